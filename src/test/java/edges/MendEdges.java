/** Edges of texts and their PARTS: promises 21 and 22. */
final class MendEdges {
    private static final int MIN = Integer.MIN_VALUE, MAX = Integer.MAX_VALUE;
    private static final int MOST_BOUND = 99999, DEAREST = 9999;
    private static final String TWELVE = "abcdefghijkl";
    private final Checks checks;

    MendEdges(Checks checks) {
        this.checks = checks;
    }

    void all() {
        textsHaveOneToTwelveRows();
        oneBlankBetween();
        keptCostsNothing();
        mendedByTheBound();
        mendedIsTheFirstOne();
        splitOfTwoRows();
        splitNeedsOneThatIsNoWord();
        splitHasTwelveAtMost();
        splitStandsAnywhere();
        joinedOfTwoWords();
        joinedByTheShorterFirst();
        unknownCostsTheBoundAndOne();
        pricesAtFirst();
        pricesAtTheirEdges();
        theLeastSum();
        theLeastKindFirst();
        theSecondPartThen();
        mendTakesBounds();
        mendIsBad();
        partOfThen();
        partTellsTheSum();
        partTellsNone();
        partIsBad();
    }

    private void due(WordMender x, String text, int bound, String kinds, int sum) {
        String call = text + " by " + bound;
        checks.due(call, Checks.mend(x, text, bound), kinds.length());
        checks.same("the kinds of " + call, Checks.parts(x), kinds);
        checks.due("the sum of " + call, x.part(-1, 1), sum);
    }

    private void part(WordMender x, int i, int... due) {
        for (int what = 0; what < 5; what++) checks.due("part " + i + " " + what, x.part(i, what), due[what]);
    }

    private static String rows(int n, String row) {
        StringBuilder s = new StringBuilder();
        for (int k = 0; k < n; k++) s.append(k == 0 ? "" : " ").append(row);
        return s.toString();
    }

    private void textsHaveOneToTwelveRows() {
        checks.sentence("==== 4", "1 to 12 of them");
        for (int n = 1; n <= 12; n++) {
            due(Checks.with("a"), rows(n, "a"), 0, "000000000000".substring(0, n), 0);
            due(new WordMender(), rows(n, TWELVE), MOST_BOUND, "444444444444".substring(0, n), 100000 * n);
        }
        for (int n : new int[] {0, 13, 14, 18}) {
            checks.refused(n + " rows", WordMender.BAD, x -> Checks.mend(x, rows(n, TWELVE), 0));
            checks.refused(n + " short rows", WordMender.BAD, x -> Checks.mend(x, rows(n, "a"), 0));
        }
        checks.refused("120 rows", WordMender.BAD, x -> Checks.mend(x, rows(120, "a"), 0));
    }

    private void oneBlankBetween() {
        checks.sentence("==== 4", "ROWS of LETTERS with one blank (32) between");
        due(Checks.with("a"), "a a", 0, "00", 0);
        String twelve = rows(12, "a");
        for (String s : new String[] {" ", "  ", " a", "a ", "a  a", "a   a", " a a", "a a ", " " + twelve, twelve + " ", "a\ta", "a\0a",
            "a!a", "a\u001fa", "a=a", "a,a", "a\u00a0a"}) {
            checks.refused("text " + s, WordMender.BAD, x -> Checks.mend(x, s, 0));
        }
    }

    private void keptCostsNothing() {
        checks.sentence("==== 4", "0 KEPT: a row that is a WORD: 0.");
        WordMender x = Checks.with("a", "b", TWELVE);
        due(x, "b " + TWELVE + " a", 0, "000", 0);
        part(x, 0, 0, 0, 2, -1, 1);
        part(x, 1, 0, 0, 1, -1, 1);
        part(x, 2, 0, 0, 0, -1, 1);
        due(x, "abcdefghijk", 0, "4", 1);
    }

    private void mendedByTheBound() {
        checks.sentence("==== 4", "1 MENDED: a row that is none: the first WORD that near() finds for it by the BOUND: its DISTANCE.");
        WordMender x = Checks.with("abc");
        due(x, "abd", 99, "4", 100);
        due(x, "abd", 100, "1", 100);
        part(x, 0, 1, 100, 0, -1, 1);
        due(x, "axy", 199, "4", 200);
        due(x, "axy", 200, "1", 200);
        x.price(1, 2, 3, 1);
        due(x, "abd", 0, "4", 1);
        due(x, "abd", 1, "1", 1);
        WordMender y = Checks.with("bbbbbbbbbbc");
        for (int kind = 1; kind <= 6; kind++) y.price(kind, -1, -1, DEAREST);
        y.price(1, 2, 3, 9);
        due(y, "aaaaaaaaaad", MOST_BOUND, "1", 99999);
        y.price(1, 2, 3, 10);
        due(y, "aaaaaaaaaad", MOST_BOUND, "4", 100000);
    }

    private void mendedIsTheFirstOne() {
        checks.sentence("==== 4", "the first WORD that near() finds for it");
        WordMender x = new WordMender();
        Checks.add(x, "p", 100);
        Checks.add(x, "qa", 1);
        Checks.add(x, "r", 100);
        x.price(2, -1, -1, 50);
        x.model(500);
        // TYPED q: p and r 100 less 50, qa 50 less 0: equal, by greater COUNT, then by letters.
        due(x, "q", 100, "1", 100);
        part(x, 0, 1, 100, 0, -1, 1);
        due(x, "q", 99, "1", 50);
        part(x, 0, 1, 50, 1, -1, 1);
        Checks.add(x, "r", 1);
        due(x, "q", 100, "1", 100);
        part(x, 0, 1, 100, 2, -1, 1);
        x.model(499);
        due(x, "q", 100, "1", 100);
        x.model(490);
        due(x, "q", 100, "1", 50);
    }

    private void splitOfTwoRows() {
        checks.sentence("==== 4", "2 SPLIT: two rows, one behind the other");
        WordMender x = Checks.with("abc");
        due(x, "a bc", 100, "2", 60);
        part(x, 0, 2, 60, 0, -1, 2);
        due(x, "ab c", 100, "2", 60);
        due(x, "a b c", 20, "444", 63);
        due(x, "abc", 100, "0", 0);
        due(x, "bc a", 20, "44", 42);
        due(x, "a q bc", 20, "444", 63);
    }

    private void splitNeedsOneThatIsNoWord() {
        checks.sentence("==== 4", "of which one at least is no WORD");
        due(Checks.with("ab"), "a b", 100, "2", 60);
        due(Checks.with("ab", "a"), "a b", 100, "2", 60);
        due(Checks.with("ab", "b"), "a b", 100, "2", 60);
        due(Checks.with("ab", "a", "b"), "a b", 100, "00", 0);
        // The rows around these two do not matter.
        for (String known : new String[] {"a", "b"}) {
            WordMender x = Checks.with("ab", known, "q");
            due(x, "q a b", 100, "02", 60);
            due(x, "a b q", 100, "20", 60);
            due(x, "q a b q", 100, "020", 60);
        }
    }

    private void splitHasTwelveAtMost() {
        checks.sentence("==== 4", "the WORD that both together make (12 LETTERS at most): the price of splits");
        WordMender x = Checks.with(TWELVE);
        for (int cut = 1; cut < 12; cut++) {
            String first = TWELVE.substring(0, cut);
            String second = TWELVE.substring(cut);
            due(x, first + " " + second, 99, "2", 60);
            // One LETTER more, and no twelve of the thirteen are taken for the WORD.
            due(x, first + " " + second + "q", 99, "44", 200);
            due(x, "q" + first + " " + second, 99, "44", 200);
        }
        due(x, TWELVE + " " + TWELVE, 100, "00", 0);
        due(x, TWELVE + " b", 99, "04", 100);
        due(x, "b " + TWELVE, 99, "40", 100);
    }

    private void splitStandsAnywhere() {
        checks.sentence("==== 4", "From the left it is taken apart into PARTS");
        WordMender x = Checks.with("ab", "q");
        due(x, "a b q q q q q q q q q q", 50, "20000000000", 60);
        due(x, "q q q q q q q q q q a b", 50, "00000000002", 60);
        part(x, 10, 2, 60, 0, -1, 2);
        due(x, "a b a b a b a b a b a b", 50, "222222", 360);
        part(x, 5, 2, 60, 0, -1, 2);
        due(x, "q a b a b a b a b a b q", 50, "0222220", 300);
    }

    private void joinedOfTwoWords() {
        checks.sentence("==== 4", "3 JOINED: a row that is none: two WORDS that make it together");
        WordMender x = Checks.with("a", "b", "cdefghijklm");
        due(x, "ab", 60, "3", 60);
        part(x, 0, 3, 60, 0, 1, 1);
        due(x, "acdefghijklm", 60, "3", 60);
        due(x, "cdefghijklma", 60, "3", 60);
        part(x, 0, 3, 60, 2, 0, 1);
        due(x, "aa", 60, "3", 60);
        due(x, "aba", 60, "4", 61);
        due(x, "c", 60, "4", 61);
        due(x, "ac", 60, "4", 61);
        due(x, "ca", 60, "4", 61);
        Checks.add(x, "ab", 1);
        due(x, "ab", 60, "0", 0);
        Checks.drop(x, "a");
        Checks.drop(x, "ab");
        due(x, "ab", 60, "4", 61);
    }

    private void joinedByTheShorterFirst() {
        checks.sentence("==== 4", "the shorter first one of those there are: the price of joins");
        WordMender x = Checks.with("a", "ab", "abc", "d", "cd", "bcd");
        due(x, "abcd", 60, "3", 60);
        part(x, 0, 3, 60, 0, 3, 1);
        Checks.drop(x, "bcd");
        due(x, "abcd", 60, "3", 60);
        part(x, 0, 3, 60, 1, 3, 1);
        Checks.drop(x, "cd");
        due(x, "abcd", 60, "3", 60);
        part(x, 0, 3, 60, 2, 3, 1);
        Checks.drop(x, "d");
        due(x, "abcd", 60, "4", 61);
    }

    private void unknownCostsTheBoundAndOne() {
        checks.sentence("==== 4", "4 UNKNOWN: a row that is none: the BOUND and 1.");
        WordMender x = new WordMender();
        for (int bound : new int[] {0, 1, 60, MOST_BOUND - 1, MOST_BOUND}) {
            due(x, "q", bound, "4", bound + 1);
            part(x, 0, 4, bound + 1, -1, -1, 1);
        }
        due(x, rows(12, TWELVE), MOST_BOUND, "444444444444", 1200000);
        due(x, rows(12, "a"), 0, "444444444444", 12);
    }

    private void pricesAtFirst() {
        checks.sentence("==== 4", "Prices of splits and joins are 60 at first.");
        WordMender x = Checks.with("ab", "c", "d");
        due(x, "a b", 60, "2", 60);
        due(x, "cd", 60, "3", 60);
        checks.due("splits", x.price(8, -1, -1, 60), 60);
        checks.due("joins", x.price(9, -1, -1, 60), 60);
    }

    private void pricesAtTheirEdges() {
        checks.sentence("Promise 8", "KINDS 8 and 9 (a = b = NONE): that of splits, of joins.");
        WordMender x = Checks.with("ab", "c", "d");
        x.price(8, -1, -1, 1);
        x.price(9, -1, -1, 2);
        due(x, "a b cd", 20, "23", 3);
        for (int kind = 1; kind <= 6; kind++) x.price(kind, -1, -1, DEAREST);
        x.price(8, -1, -1, DEAREST);
        x.price(9, -1, -1, DEAREST - 1);
        due(x, "a b cd", MOST_BOUND, "23", 2 * DEAREST - 1);
        checks.refused("splits for nothing", WordMender.BAD, y -> y.price(8, -1, -1, 0));
        checks.refused("joins for nothing", WordMender.BAD, y -> y.price(9, -1, -1, 0));
    }

    private void theLeastSum() {
        checks.sentence("==== 4", "THE MENDING is the row of PARTS with the least sum");
        WordMender x = Checks.with("ab", "cd");
        due(x, "a b c d", 70, "22", 120);
        due(x, "x a b c d", 70, "422", 71 + 120);
        due(x, "a b x c d", 70, "242", 71 + 120);
        WordMender y = Checks.with("ab", "bc");
        due(y, "a b c", 70, "24", 131);
        // ab makes a, and bc makes c, if b is left out.
        y.price(2, 1, -1, 30);
        due(y, "a b c", 70, "12", 90);
        Checks.drop(y, "bc");
        due(y, "a b c", 70, "24", 131);
    }

    private void theLeastKindFirst() {
        checks.sentence("==== 4", "of several the one whose first PART has the least KIND");
        WordMender x = Checks.with("a", "ab");
        due(x, "a b", 58, "04", 59);
        due(x, "a b", 59, "04", 60);
        due(x, "a b", 60, "2", 60);
        WordMender y = Checks.with("ab");
        y.price(2, -1, -1, 30);
        due(y, "a b", 59, "11", 60);
        y.price(2, 0, -1, 31);
        due(y, "a b", 60, "2", 60);
        WordMender z = Checks.with("a", "b", "abd");
        z.price(2, 3, -1, 60);
        due(z, "ab", 60, "1", 60);
        z.price(2, 3, -1, 61);
        due(z, "ab", 61, "3", 60);
        WordMender w = Checks.with("a", "b", "abc");
        w.price(9, -1, -1, 10);
        due(w, "ab c", 49, "2", 60);
        w.price(9, -1, -1, 9);
        due(w, "ab c", 49, "34", 59);
        WordMender v = Checks.with("ab");
        due(v, "a b", 28, "44", 58);
        v.price(8, -1, -1, 58);
        due(v, "a b", 28, "2", 58);
        WordMender u = Checks.with("a", "b");
        due(u, "ab", 59, "3", 60);
        due(u, "ab", 58, "4", 59);
    }

    private void theSecondPartThen() {
        checks.sentence("==== 4", "of these the second one, and so on");
        WordMender x = Checks.with("q", "ab", "bc");
        due(x, "q a b c", 70, "024", 131);
        due(x, "q q a b", 29, "002", 60);
        due(x, "q q a b", 28, "0044", 58);
        WordMender y = Checks.with("ab", "bc", "cd");
        // 2 2 is less than 4 2 4; of 2 4 4, 4 2 4 and 4 4 2 the first.
        due(y, "a b c d", 70, "22", 120);
        due(y, "x b c d", 29, "424", 30 + 60 + 30);
    }

    private void mendTakesBounds() {
        checks.sentence("Promise 21", "THE TAPE has a text; BOUND 0 .. 99999: how many PARTS THE MENDING has.");
        WordMender x = Checks.with("a", "abc");
        due(x, "a", 0, "0", 0);
        due(x, "a", MOST_BOUND, "0", 0);
        due(x, "a b", 0, "04", 1);
        due(x, rows(12, "a"), MOST_BOUND, "000000000000", 0);
    }

    private void mendIsBad() {
        checks.sentence("Promise 21", "BAD.");
        for (int bound : new int[] {-1, -2, MIN, 100000, 100001, MAX}) {
            checks.refused("bound " + bound, WordMender.BAD, x -> Checks.mend(x, "ab q", bound));
        }
        for (String s : new String[] {"", "A", "a=b", "abcdefghijklm", "a abcdefghijklm", "abcdefghijklm a", "a B"}) {
            checks.refused("mend of " + s, WordMender.BAD, x -> Checks.mend(x, s, 100));
        }
    }

    private void partOfThen() {
        checks.sentence("Promise 22", "Of PART i of the latest mend() that was not refused: 0 its KIND, 1 its price, 2 the number (then) of its WORD, "
                + "of its first one (4: NONE), 3 of its second one (3 alone; else NONE), 4 how many rows of the text it has.");
        WordMender x = Checks.with("b", "c", "keyboard");
        due(x, "c keyb oard bc d zz", 100, "02314", 0 + 60 + 60 + 100 + 101);
        Checks.add(x, "a", 1);
        Checks.drop(x, "c");
        x.price(1, -1, -1, 1);
        x.price(8, -1, -1, 1);
        x.price(9, -1, -1, 1);
        for (String s : new String[] {"", "a  b", "A"}) checks.due("refused " + s, Checks.mend(x, s, 5), WordMender.BAD);
        checks.due("refused by its bound", Checks.mend(x, "a", -1), WordMender.BAD);
        part(x, 0, 0, 0, 1, -1, 1);
        part(x, 1, 2, 60, 2, -1, 2);
        part(x, 2, 3, 60, 0, 1, 1);
        part(x, 3, 1, 100, 0, -1, 1);
        part(x, 4, 4, 101, -1, -1, 1);
        checks.due("the sum of then", x.part(-1, 1), 321);
        due(x, "a", 5, "0", 0);
        checks.due("no second one any more", x.part(1, 0), WordMender.NONE);
    }

    private void partTellsTheSum() {
        checks.sentence("Promise 22", "i = -1: what 1: the sum (0 ahead of any mend()).");
        WordMender x = new WordMender();
        checks.due("ahead of any", x.part(-1, 1), 0);
        Checks.mend(x, "a  b", 5);
        Checks.mend(x, "a", -1);
        checks.due("refused ones are none", x.part(-1, 1), 0);
        Checks.mend(x, "a", 0);
        checks.due("the least that is unknown", x.part(-1, 1), 1);
        Checks.mend(x, rows(12, "a"), MOST_BOUND);
        checks.due("the greatest", x.part(-1, 1), 1200000);
        Checks.add(x, "a", 1);
        Checks.mend(x, "a", MOST_BOUND);
        checks.due("none", x.part(-1, 1), 0);
    }

    private void partTellsNone() {
        checks.sentence("Promise 22", "NONE: no such.");
        for (int what = 0; what < 5; what++) checks.due("ahead of any " + what, new WordMender().part(0, what), WordMender.NONE);
        WordMender x = Checks.with("ab", "q");
        Checks.mend(x, "a b q", 100);
        checks.due("the last one", x.part(1, 0), 0);
        for (int i : new int[] {2, 3, 11, 12, -2, -3, MIN, MAX}) {
            for (int what = 0; what < 5; what++) checks.due("part " + i + " " + what, x.part(i, what), WordMender.NONE);
        }
        for (int what : new int[] {0, 2, 3, 4}) checks.due("the sum has no " + what, x.part(-1, what), WordMender.NONE);
        Checks.mend(x, rows(12, "q"), 0);
        checks.due("the twelfth", x.part(11, 4), 1);
        for (int what = 0; what < 5; what++) checks.due("no 13th " + what, x.part(12, what), WordMender.NONE);
    }

    private void partIsBad() {
        checks.sentence("Promise 22", "BAD: what.");
        for (int what : new int[] {-1, -2, MIN, 5, 6, MAX}) {
            for (int i = 0; i < 5; i++) {
                int one = i;
                checks.refused("part " + one + " " + what, WordMender.BAD, x -> x.part(one, what));
            }
        }
    }
}
