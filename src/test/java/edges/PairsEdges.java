/** Edges of PAIRS and of what is LEARNT from them: promises 18 to 20. */
final class PairsEdges {
    private static final int DEAREST = 9999;
    private static final String TWELVE = "abcdefghijkl";
    private final Checks checks;

    PairsEdges(Checks checks) {
        this.checks = checks;
    }

    void all() {
        pairsAreForty();
        pairTellsItsNumber();
        pairIsBad();
        pairIsFull();
        noPairsNoRounds();
        oneRoundWithoutSlips();
        twoRoundsAtLeast();
        roundsGoOnForOnePair();
        sameCountsAreNotSameWays();
        moreRounds();
        theLastRoundSetsPrices();
        twentyRoundsAtMost();
        kindsOneToSixCount();
        pricesFromTwentyTo200();
        pricesAreCut();
        byThePricesOfNow();
        otherPricesStay();
        spreadOfNoneToForty();
        spreadOfNow();
    }

    private static WordMender withPairs(String... pairs) {
        WordMender x = new WordMender();
        for (String p : pairs) Checks.pair(x, p);
        return x;
    }

    private static WordMender forty() {
        WordMender x = new WordMender();
        for (int k = 0; k < 40; k++) Checks.pair(x, "a=b");
        return x;
    }

    private void prices(WordMender x, int... due) {
        for (int kind = 1; kind <= 6; kind++) checks.due("price of kind " + kind, x.price(kind, -1, -1, due[kind - 1]), due[kind - 1]);
    }

    private void pairsAreForty() {
        checks.sentence("==== 3", "PAIRS (40 at most) are two rows, MEANT and TYPED.");
        WordMender x = new WordMender();
        for (int k = 0; k < 39; k++) Checks.pair(x, "a=b");
        checks.due("39", x.count(3), 39);
        checks.due("the 40th", Checks.pair(x, "c=d"), 39);
        checks.due("40", x.count(3), 40);
        checks.due("the 41st", Checks.pair(x, "e=f"), WordMender.FULL);
        checks.due("still 40", x.count(3), 40);
        checks.due("all 40 are added up", x.spread(), 4000);
        x.price(1, 2, 3, 1);
        checks.due("the 40th is there", x.spread(), 3901);
        x.price(1, 4, 5, 1);
        checks.due("the 41st is not", x.spread(), 3901);
    }

    private void pairTellsItsNumber() {
        checks.sentence("Promise 18", "A PAIR: THE TAPE has MEANT, = and TYPED: its number.");
        WordMender x = new WordMender();
        checks.due("the first one", Checks.pair(x, "a=a"), 0);
        checks.due("the same again", Checks.pair(x, "a=a"), 1);
        checks.due("twelve and one", Checks.pair(x, TWELVE + "=l"), 2);
        checks.due("one and twelve", Checks.pair(x, "l=" + TWELVE), 3);
        checks.due("twelve and twelve", Checks.pair(x, TWELVE + "=mnopqrstuvwx"), 4);
        checks.due("their distances", x.spread(), 1100 + 1100 + 1200);
    }

    private void pairIsBad() {
        checks.sentence("Promise 18", "BAD, FULL.");
        for (String s : new String[] {"", "=", "a", "a=", "=a", "abcdefghijklm=a", "a=abcdefghijklm", "a=b=c", "a==b", "a b", "a=b ", "A=a"}) {
            checks.refused("pair of " + s, WordMender.BAD, x -> Checks.pair(x, s));
        }
    }

    private void pairIsFull() {
        checks.sentence("Promise 18", "FULL.");
        WordMender x = forty();
        checks.due("one more", Checks.pair(x, "abc=abc"), WordMender.FULL);
        checks.due("the tape is emptied", x.count(4), 0);
        checks.due("they are as they were", x.spread(), 4000);
        checks.due("they are learnt", x.learn(), 2);
        checks.due("again", Checks.pair(x, "a=b"), WordMender.FULL);
        checks.due("by 20 each", x.spread(), 800);
    }

    private void noPairsNoRounds() {
        checks.sentence("Promise 19", "how many ROUNDS; 0: there are no PAIRS.");
        WordMender x = new WordMender();
        x.price(3, -1, -1, 7);
        checks.due("no pairs", x.learn(), 0);
        prices(x, 100, 100, 7, 100, 100, 100);
        Checks.pair(x, "a=");
        checks.due("a refused one is none", x.learn(), 0);
        Checks.pair(x, "a=b");
        checks.due("one pair", x.learn(), 2);
    }

    private void oneRoundWithoutSlips() {
        checks.sentence("==== 3", "if N is 0 no price changes, and this is the last ROUND");
        WordMender x = withPairs("a=a", TWELVE + "=" + TWELVE);
        x.price(1, -1, -1, 1);
        x.price(2, -1, -1, DEAREST);
        checks.due("one round", x.learn(), 1);
        prices(x, 1, DEAREST, 100, 100, 100, 100);
        Checks.sound(x, "x=y", 1);
        Checks.pair(x, "x=y");
        x.price(1, -1, -1, 2);
        checks.due("one round with a sound", x.learn(), 1);
        prices(x, 2, DEAREST, 100, 100, 100, 100);
        Checks.pair(x, "a=b");
        checks.due("one slip makes it two", x.learn(), 2);
        prices(x, 20, 200, 200, 200, 200, 200);
    }

    private void twoRoundsAtLeast() {
        checks.sentence("==== 3", "ROUNDS go on till one finds WAYS that are all the same as those of the ROUND before it");
        WordMender x = withPairs("a=b");
        checks.due("the first has none before it", x.learn(), 2);
        checks.due("nor has that of the next call", x.learn(), 2);
        prices(x, 20, 200, 200, 200, 200, 200);
        checks.due("forty pairs", forty().learn(), 2);
    }

    /** Of cb=a the first ROUND leaves c out and swaps b, the second one swaps c and leaves b out. */
    private static WordMender toTurn(int before, int behind) {
        WordMender x = new WordMender();
        x.price(2, 1, -1, 104);
        for (int k = 0; k < before; k++) Checks.pair(x, "q=q");
        Checks.pair(x, "cb=a");
        for (int k = 0; k < behind; k++) Checks.pair(x, "q=q");
        return x;
    }

    private void roundsGoOnForOnePair() {
        checks.sentence("==== 3", "WAYS that are all the same as those of the ROUND before it");
        checks.due("it alone", toTurn(0, 0).learn(), 3);
        checks.due("the first one of 40", toTurn(0, 39).learn(), 3);
        checks.due("the last one of 40", toTurn(39, 0).learn(), 3);
        checks.due("one among 40", toTurn(20, 19).learn(), 3);
    }

    private void sameCountsAreNotSameWays() {
        checks.sentence("==== 3", "till one finds WAYS that are all the same");
        WordMender x = toTurn(0, 0);
        checks.due("as many of each kind", x.learn(), 3);
        prices(x, 110, 110, 200, 200, 200, 200);
        Checks.distance(x, "cb=a");
        checks.same("the way then", Checks.way(x), "12");
    }

    private void moreRounds() {
        checks.sentence("==== 3", "ROUNDS go on till");
        checks.due("three", withPairs("bbaaa=aabbb").learn(), 3);
        checks.due("four", withPairs("bcac=caba", "ccac=baca").learn(), 4);
    }

    private void theLastRoundSetsPrices() {
        checks.sentence("==== 3", "(it sets its prices, and is the last)");
        WordMender x = withPairs("bbaaa=aabbb");
        checks.due("three rounds", x.learn(), 3);
        // What THE WAY of the last ROUND counts is what the prices tell.
        Checks.distance(x, "bbaaa=aabbb");
        int[] c = new int[8];
        int n = 0;
        for (int i = 0; i < x.way(-1, 0); i++) {
            c[x.way(i, 0)]++;
            n += x.way(i, 0) > 0 ? 1 : 0;
        }
        for (int kind = 1; kind <= 6; kind++) {
            int due = 200 - 180 * c[kind] / n;
            checks.due("price of kind " + kind, x.price(kind, -1, -1, due), due);
        }
        checks.due("nothing is left to learn", x.learn(), 2);
    }

    private void twentyRoundsAtMost() {
        checks.sentence("==== 3", "or 20 are done");
        WordMender x = new WordMender();
        Checks.sound(x, "aaa=b", 251);
        Checks.pair(x, "aaaaab=bb");
        // Odd ROUNDS go by the SOUND and two left out, even ones by a swap and four left out.
        Checks.distance(x, "aaaaab=bb");
        checks.same("ahead of round 1", Checks.way(x), "22(0)0");
        checks.due("twenty rounds", x.learn(), 20);
        prices(x, 200 - 180 / 5, 200 - 180 * 4 / 5, 200, 200, 200, 200);
        Checks.distance(x, "aaaaab=bb");
        checks.same("ahead of round 21", Checks.way(x), "22(0)0");
        checks.due("twenty more", x.learn(), 20);
    }

    private void kindsOneToSixCount() {
        checks.sentence("==== 3", "C[k] is how many SLIPS of KIND k (1 to 6) there are in all WAYS, N all six.");
        String[] rows = {"", "a=b", "ab=b", "b=ab", "ab=ba", "a=aa", "aa=a"};
        for (int kind = 1; kind <= 6; kind++) {
            WordMender x = withPairs(rows[kind], "q=r");
            for (int k = 1; k <= 6; k++) x.price(k, -1, -1, k == kind ? 1 : 100);
            x.price(1, -1, -1, 1);
            x.price(1, 0, 1, kind == 1 ? 1 : DEAREST);
            x.price(1, 1, 0, DEAREST);
            checks.due("kind " + kind + " and one swap", x.learn(), 2);
            for (int k = 1; k <= 6; k++) {
                int c = (k == kind ? 1 : 0) + (k == 1 ? 1 : 0);
                checks.due("kind " + kind + ": price of " + k, x.price(k, -1, -1, 1), 200 - 90 * c);
            }
        }
        WordMender y = new WordMender();
        Checks.sound(y, "x=y", 1);
        Checks.pair(y, "xaaaaaaaaaab=yaaaaaaaaaac");
        checks.due("same and sounds are none of six", y.learn(), 2);
        prices(y, 20, 200, 200, 200, 200, 200);
    }

    private void pricesFromTwentyTo200() {
        checks.sentence("==== 3", "The price of each of the six KINDS becomes 200 less 180 * C[k] / N (cut)");
        WordMender x = withPairs("a=b");
        x.learn();
        prices(x, 20, 200, 200, 200, 200, 200);
        checks.due("one of 180", oneOf(180).price(1, -1, -1, 1), 199);
        checks.due("179 of 180", oneOf(180).price(2, -1, -1, 1), 21);
        checks.due("one of 181", oneOf(181).price(1, -1, -1, 1), 200);
        checks.due("180 of 181", oneOf(181).price(2, -1, -1, 1), 21);
    }

    /** One swap, and so many SLIPS in all: the others are left out. */
    private static WordMender oneOf(int n) {
        WordMender x = withPairs("a=b");
        int more = n - 1;
        while (more > 0) {
            int some = Math.min(more, 11);
            Checks.pair(x, TWELVE.substring(0, some + 1) + "=a");
            more -= some;
        }
        x.learn();
        return x;
    }

    private void pricesAreCut() {
        checks.sentence("==== 3", "(cut)");
        for (int n = 2; n <= 30; n++) {
            WordMender x = oneOf(n);
            prices(x, 200 - 180 / n, 200 - 180 * (n - 1) / n, 200, 200, 200, 200);
        }
    }

    private void byThePricesOfNow() {
        checks.sentence("==== 3", "THE WAY of each is looked for by the prices of now");
        WordMender x = withPairs("ab=ba");
        x.price(4, -1, -1, 200);
        checks.due("two swaps at 200", x.learn(), 2);
        prices(x, 20, 200, 200, 200, 200, 200);
        WordMender y = withPairs("ab=ba");
        y.price(4, -1, -1, 199);
        checks.due("turned at 199", y.learn(), 2);
        prices(y, 200, 200, 200, 20, 200, 200);
    }

    private void otherPricesStay() {
        checks.sentence("==== 3", "prices by LETTERS and SOUNDS stay");
        WordMender x = withPairs("a=b", "xa=xb");
        x.price(1, 0, 1, DEAREST);
        x.price(2, 0, -1, 1);
        x.price(3, 1, -1, 1);
        x.price(8, -1, -1, 61);
        x.price(9, -1, -1, 62);
        Checks.sound(x, "q=r", 7);
        checks.due("left out and put in", x.learn(), 2);
        prices(x, 200, 110, 110, 200, 200, 200);
        checks.due("a to b", x.price(1, 0, 1, 1), DEAREST);
        checks.due("a left out", x.price(2, 0, -1, 1), 1);
        checks.due("b put in", x.price(3, 1, -1, 1), 1);
        checks.due("none by letters came", x.price(1, 1, 0, 1), 0);
        checks.due("splits", x.price(8, -1, -1, 1), 61);
        checks.due("joins", x.price(9, -1, -1, 1), 62);
        checks.due("the sound", Checks.distance(x, "q=r"), 7);
    }

    private void spreadOfNoneToForty() {
        checks.sentence("Promise 20", "The sum of DISTANCES of all PAIRS");
        WordMender x = new WordMender();
        checks.due("no pairs", x.spread(), 0);
        for (int kind = 1; kind <= 6; kind++) x.price(kind, -1, -1, DEAREST);
        for (int k = 1; k <= 40; k++) {
            Checks.pair(x, "aaaaaaaaaaaa=bbbbbbbbbbbb");
            checks.due(k + " pairs", x.spread(), k * 12 * DEAREST);
        }
        checks.due("distance 0", withPairs("a=a").spread(), 0);
    }

    private void spreadOfNow() {
        checks.sentence("Promise 20", "by the prices of now");
        WordMender x = withPairs("a=b", "a=b");
        x.price(1, -1, -1, 1);
        checks.due("the least", x.spread(), 2);
        x.price(1, 0, 1, 150);
        checks.due("by letters", x.spread(), 300);
        x.price(1, 0, 1, 0);
        checks.due("by the kind", x.spread(), 2);
        x.learn();
        checks.due("by what was learnt", x.spread(), 40);
    }
}
