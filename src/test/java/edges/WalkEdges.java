/** Edges of THE TREE, THE WALK, THE MODEL and RANK: promises 13 to 17. */
final class WalkEdges {
    private static final int MIN = Integer.MIN_VALUE, MAX = Integer.MAX_VALUE;
    private static final int MOST_BOUND = 99999, DEAREST = 9999;
    private static final String TWELVE = "abcdefghijkl";
    private final Checks checks;

    WalkEdges(Checks checks) {
        this.checks = checks;
    }

    void all() {
        depthsAreZeroToTwelve();
        statesHaveOneMore();
        noNumberIsFar();
        metByLetters();
        leftByTheBound();
        leftByEachPlace();
        neverLeftNearTheRoot();
        belowALeftOneNoneIsMet();
        soundsGoOnFromTwoAbove();
        numberedAsMet();
        asManyAsCanBeMet();
        nothingIsMetWithoutWords();
        sharesAreCut();
        sharesAreFloats();
        noSharesAtFirst();
        rankByDistanceLessShare();
        rankByCounts();
        rankByLetters();
        eachInRanksOrder();
        foundAtMostTheBound();
        foundByTheDistanceAlone();
        nearTakesBounds();
        nearAtTheGreatestBound();
        nearIsBad();
        nearAll200();
        nearestTakesN();
        nearestTheFirstOfAll();
        nearestIsBad();
        completeByTheEmptyOne();
        completeByWholeOnes();
        completeBelowWhatIsLeft();
        completeTakesBounds();
        completeIsBad();
        foundOfThen();
        foundTellsNone();
        foundIsBad();
        nodeOfTheRoot();
        nodeTellsNone();
        nodeIsBad();
        nodeOfTheLatest();
    }

    private void depthsAreZeroToTwelve() {
        checks.sentence("==== 2", "its depth is how many LETTERS");
        WordMender x = Checks.with(TWELVE);
        Checks.near(x, TWELVE, 0);
        checks.due("met", x.count(5), 13);
        for (int i = 0; i <= 12; i++) checks.due("depth of " + i, x.node(i, 0), i);
        Checks.near(Checks.with("a"), "a", 0);
        WordMender y = Checks.with("a");
        Checks.near(y, "a", 0);
        checks.due("the root and one", y.count(5), 2);
        checks.due("its depth", y.node(1, 0), 1);
    }

    private void statesHaveOneMore() {
        checks.sentence("==== 2", "For a TYPED row of n LETTERS a NODE's STATE is a row of n + 1 numbers");
        for (int n = 1; n <= 12; n++) {
            WordMender x = Checks.with("q");
            Checks.near(x, TWELVE.substring(0, n), 0);
            for (int j = 0; j <= n; j++) {
                checks.due(n + " letters: the root's place " + j, x.node(0, 5 + j), 100 * j);
                checks.due(n + " letters: q's place " + j, x.node(1, 5 + j), Math.max(1, j) * 100);
            }
            checks.due(n + " letters: no place more", x.node(0, 5 + n + 1), WordMender.NONE);
            checks.due(n + " letters: neither of q", x.node(1, 5 + n + 1), WordMender.NONE);
            x.put(0, 2, 0);
            checks.due(n + " letters: so many numbers", x.forge(0, 6, 0), n + 1);
        }
        WordMender y = Checks.with("q");
        Checks.near(y, TWELVE, 0);
        Checks.near(y, "ab", 0);
        checks.due("none of the longer row's", y.node(0, 5 + 3), WordMender.NONE);
    }

    private void noNumberIsFar() {
        checks.sentence("==== 2", "at place j the least sum of prices of SLIPS that make the beginning the first j LETTERS of TYPED; "
                + "FAR (1000000) if there are none.");
        WordMender x = Checks.with("zzzzzzzzzzzz");
        for (int kind = 1; kind <= 6; kind++) x.price(kind, -1, -1, DEAREST);
        Checks.near(x, TWELVE, MOST_BOUND);
        for (int depth = 0; depth <= 12; depth++) {
            for (int j = 0; j <= 12; j++) {
                checks.due("depth " + depth + " place " + j, x.node(depth, 5 + j), Math.max(depth, j) * DEAREST);
            }
            checks.due("the least of depth " + depth, x.node(depth, 2), depth * DEAREST);
        }
    }

    private void metByLetters() {
        checks.sentence("==== 2", "the ROOT is MET; of a NODE that is MET and not LEFT those a LETTER longer are MET, by LETTERS, "
                + "each with all below it ahead of the next one.");
        WordMender x = Checks.with("z", "b", "az", "aab", "aa", "bza");
        Checks.near(x, "a", MOST_BOUND);
        int[][] due = {{0, -1, 0}, {1, 0, 0}, {2, 0, 1}, {3, 1, 1}, {2, 25, 1}, {1, 1, 1}, {2, 25, 0}, {3, 0, 1}, {1, 25, 1}};
        checks.due("met", x.count(5), due.length);
        for (int i = 0; i < due.length; i++) {
            checks.due("depth of " + i, x.node(i, 0), due[i][0]);
            checks.due("last letter of " + i, x.node(i, 1), due[i][1]);
            checks.due("a word: " + i, x.node(i, 4), due[i][2]);
        }
    }

    private void leftByTheBound() {
        checks.sentence("==== 2", "A NODE is LEFT if no number in its STATE, nor in those of the two NODES above it "
                + "(one letter, two letters shorter, as far as there are), is at most the BOUND.");
        // The least number in the STATE of depth d is 100 * d: the one two letters shorter decides.
        int[][] due = {{0, 4, 1}, {99, 4, 1}, {100, 5, 1}, {101, 5, 1}, {199, 5, 1}, {200, 6, 1}, {299, 6, 1}, {300, 7, 1}, {399, 7, 1},
            {400, 7, 0}, {600, 7, 0}, {MOST_BOUND, 7, 0}};
        for (int[] d : due) {
            WordMender x = Checks.with("abcdef");
            Checks.near(x, "z", d[0]);
            checks.due("met by " + d[0], x.count(5), d[1]);
            checks.due("left by " + d[0], x.count(6), d[2]);
            for (int i = 0; i < d[1]; i++) {
                checks.due(i + " is left by " + d[0], x.node(i, 3), i == d[1] - 1 ? d[2] : 0);
                checks.due("the least of " + i, x.node(i, 2), 100 * i);
            }
            checks.due("no other one by " + d[0], x.node(d[1], 3), WordMender.NONE);
            Checks.complete(x, "z", d[0]);
            checks.due("met by complete() " + d[0], x.count(5), d[1]);
            checks.due("left by complete() " + d[0], x.count(6), d[2]);
        }
        WordMender y = Checks.with("abcdef");
        Checks.near(y, "z", 399);
        checks.due("a word can be left", y.node(6, 4), 1);
    }

    private void leftByEachPlace() {
        checks.sentence("==== 2", "A NODE is LEFT if no number in its STATE, nor in those of the two NODES above it");
        // By BOUND 0 only place j of depth j keeps the three NODES from there on.
        for (int j = 0; j <= 12; j++) {
            String word = TWELVE.substring(0, j) + "qqqqqqqqqqqq".substring(j);
            WordMender x = Checks.with(word);
            Checks.near(x, TWELVE, 0);
            checks.due(word + " met", x.count(5), Math.min(13, j + 4));
            checks.due(word + " left", x.count(6), j + 3 <= 12 ? 1 : 0);
            checks.due(word + " place " + j, x.node(j, 5 + j), 0);
            for (int i = j; i < j + 3 && i <= 12; i++) checks.due(word + " depth " + i, x.node(i, 3), 0);
            if (j + 3 <= 12) checks.due(word + " depth " + (j + 3), x.node(j + 3, 3), 1);
        }
    }

    private void neverLeftNearTheRoot() {
        checks.sentence("==== 2", "as far as there are");
        WordMender x = Checks.with("qrst", "r", "st");
        for (int kind = 1; kind <= 6; kind++) x.price(kind, -1, -1, DEAREST);
        checks.due("nothing is near", Checks.near(x, TWELVE, 0), 0);
        // ROOT q qr qrs r s st: the root's 0 keeps what is two letters long at most.
        checks.due("met", x.count(5), 7);
        checks.due("left", x.count(6), 1);
        int[] left = {0, 0, 0, 1, 0, 0, 0};
        for (int i = 0; i < left.length; i++) checks.due("left " + i, x.node(i, 3), left[i]);
    }

    private void belowALeftOneNoneIsMet() {
        checks.sentence("==== 2", "of a NODE that is MET and not LEFT those a LETTER longer are MET");
        WordMender x = Checks.with("qrs", "qrsta", "qrstb", "qrtu", "r");
        Checks.near(x, "z", 99);
        // ROOT q qr qrs (left) qrt (left) r
        int[][] due = {{0, 0}, {1, 0}, {2, 0}, {3, 1}, {3, 1}, {1, 0}};
        checks.due("met", x.count(5), due.length);
        checks.due("left", x.count(6), 2);
        for (int i = 0; i < due.length; i++) {
            checks.due("depth of " + i, x.node(i, 0), due[i][0]);
            checks.due("left " + i, x.node(i, 3), due[i][1]);
        }
        checks.due("qrs is a word", x.node(3, 4), 1);
        checks.due("qrt is none", x.node(4, 4), 0);
    }

    private void soundsGoOnFromTwoAbove() {
        checks.sentence("==== 2", "nor in those of the two NODES above it (one letter, two letters shorter, as far as there are)");
        // A SOUND takes three LETTERS: what is near begins at a, the two NODES below it are far.
        WordMender x = Checks.with("abcdz", "abczz");
        for (int kind = 1; kind <= 6; kind++) x.price(kind, -1, -1, DEAREST);
        for (int k = 0; k < 19; k++) Checks.sound(x, "w=v", 1);
        Checks.sound(x, "bcd=q", 1);
        checks.due("by its price", Checks.near(x, "aqz", 1), 1);
        checks.same("abcdz", Checks.found(x), "0:1");
        // ROOT a ab abc abcd abcdz abcz (left)
        int[] least = {0, 0, DEAREST, 2 * DEAREST, 1, 1, 2 * DEAREST};
        checks.due("met", x.count(5), least.length);
        for (int i = 0; i < least.length; i++) {
            checks.due("the least of " + i, x.node(i, 2), least[i]);
            checks.due("left " + i, x.node(i, 3), i == 6 ? 1 : 0);
        }
        checks.due("0 does not pay for it", Checks.near(x, "aqz", 0), 0);
        checks.due("met by 0", x.count(5), 6);
        checks.due("abcd is left", x.node(4, 3), 1);
        checks.due("complete() pays for it", Checks.complete(x, "aq", 1), 1);
        checks.due("nearest() does", Checks.nearest(x, "aqz", 1), 1);
        checks.due("so far off", x.found(0, 1), 1);
    }

    private void numberedAsMet() {
        checks.sentence("==== 2", "NODES MET are numbered as they are MET.");
        WordMender x = Checks.with("ab", "z");
        Checks.near(x, "a", 100);
        checks.due("the root is number 0", x.node(0, 0), 0);
        checks.due("the last one", x.node(3, 1), 25);
        checks.due("none behind it", x.node(4, 0), WordMender.NONE);
        WordMender full = words200();
        Checks.near(full, "a", 0);
        checks.due("of 209", full.count(5), 209);
        checks.due("the last one of 209", full.node(208, 1), 199 % 26);
        checks.due("it is a word", full.node(208, 4), 1);
        checks.due("no 210th", full.node(209, 1), WordMender.NONE);
    }

    /** As 512 calls make no more: 168 WORDS of twelve LETTERS that have one or none in common. */
    private void asManyAsCanBeMet() {
        checks.sentence("==== 2", "a NODE for each beginning of WORDS");
        WordMender x = new WordMender();
        for (int k = 0; k < 168; k++) Checks.add(x, "" + (char) ('a' + k % 26) + (char) ('a' + k / 26) + "jklmnopqrs", 1);
        int nodes = 1 + 26 + 168 * 11;
        checks.due("in the tree", x.count(1), nodes);
        checks.due("all words are near", Checks.near(x, "z", MOST_BOUND), 168);
        checks.due("all nodes are met", x.count(5), nodes);
        checks.due("the last one", x.node(nodes - 1, 0), 12);
        checks.due("no other one", x.node(nodes, 0), WordMender.NONE);
    }

    private void nothingIsMetWithoutWords() {
        checks.sentence("==== 2", "the ROOT, if there are WORDS");
        WordMender x = Checks.with("a");
        Checks.near(x, "a", 0);
        checks.due("the root and a", x.count(5), 2);
        Checks.drop(x, "a");
        checks.due("near()", Checks.near(x, "a", MOST_BOUND), 0);
        checks.due("no node", x.count(5), 0);
        checks.due("no root", x.node(0, 0), WordMender.NONE);
        checks.due("complete()", Checks.complete(x, "a", MOST_BOUND), 0);
        checks.due("no node of complete()", x.count(5), 0);
        checks.due("none left", x.count(6), 0);
        checks.due("nearest()", Checks.nearest(x, "a", 200), 0);
        checks.due("none found", x.count(7), 0);
    }

    private int share(int weight, int count) {
        WordMender x = new WordMender();
        x.model(weight);
        Checks.add(x, "a", count);
        Checks.near(x, "a", 0);
        return x.found(0, 2);
    }

    private void sharesAreCut() {
        checks.sentence("==== 2", "cut towards 0 to an int");
        int[][] due = {{0, 100000, 0}, {1, 1, 0}, {1, 999, 0}, {1, 1000, 1}, {1, 1999, 1}, {1, 2000, 2}, {999, 1, 0}, {1000, 1, 1},
            {1001, 1, 1}, {1999, 1, 1}, {2000, 1, 2}, {100000, 1, 100}, {100000, 100000, 10000000}, {1, 100000, 100}};
        for (int[] d : due) checks.due("weight " + d[0] + " count " + d[1], share(d[0], d[1]), d[2]);
    }

    private void sharesAreFloats() {
        checks.sentence("==== 2", "the SHARE of a WORD is the float weight / 1000f times its COUNT (as a float)");
        // None of these is what doubles, longs, or floats in another order answer.
        int[][] due = {{72, 625, 44}, {576, 625, 359}, {1680, 75, 125}, {4002, 500, 2000}, {99993, 98297, 9829012},
            {89993, 53005, 4770079}, {64986, 99012, 6434394}};
        for (int[] d : due) checks.due("weight " + d[0] + " count " + d[1], share(d[0], d[1]), d[2]);
    }

    private void noSharesAtFirst() {
        checks.sentence("==== 2", "THE MODEL is a weight of thousandths, 0 at first");
        WordMender x = new WordMender();
        Checks.add(x, "a", 100000);
        Checks.add(x, "b", 1);
        Checks.near(x, "b", 100);
        checks.same("by distances alone", Checks.found(x), "1:0 0:100");
        checks.due("no share", x.found(1, 2), 0);
    }

    /** TYPED is q: WORD q has COUNT 1, p another one. */
    private String ranked(int weight, int count) {
        WordMender x = new WordMender();
        x.model(weight);
        Checks.add(x, "p", count);
        Checks.add(x, "q", 1);
        Checks.near(x, "q", 100);
        return Checks.found(x);
    }

    private void rankByDistanceLessShare() {
        checks.sentence("==== 2", "RANK: by DISTANCE less SHARE");
        checks.same("p 0, q -1", ranked(1000, 100), "1:0 0:100");
        checks.same("p -1, q -1", ranked(1000, 101), "0:100 1:0");
        checks.same("p -2, q -1", ranked(1000, 102), "0:100 1:0");
        checks.same("p 1, q 0", ranked(999, 100), "1:0 0:100");
        checks.same("p 0, q 0", ranked(999, 101), "0:100 1:0");
        checks.same("p -9999900, q -100", ranked(100000, 100000), "0:100 1:0");
    }

    private void rankByCounts() {
        checks.sentence("==== 2", "then by greater COUNT");
        WordMender x = new WordMender();
        Checks.add(x, "pa", 1);
        Checks.add(x, "pb", 99999);
        Checks.add(x, "pc", 100000);
        Checks.add(x, "pd", 2);
        Checks.near(x, "p", 100);
        checks.same("the greatest first", Checks.found(x), "2:100 1:100 3:100 0:100");
        Checks.nearest(x, "p", 2);
        checks.same("the first two", Checks.found(x), "2:100 1:100");
        Checks.complete(x, "p", 0);
        checks.same("of complete(), too", Checks.found(x), "2:0 1:0 3:0 0:0");
    }

    private void rankByLetters() {
        checks.sentence("==== 2", "then by letters");
        WordMender x = Checks.with("pz", "pa", "a", "z", "p", "paa");
        Checks.near(x, "p", 200);
        // a p pa paa pz z: paa is 200 off.
        checks.same("by letters", Checks.found(x), "1:0 0:100 2:100 4:100 5:100 3:200");
        Checks.nearest(x, "p", 3);
        checks.same("the first three", Checks.found(x), "1:0 0:100 2:100");
    }

    private void eachInRanksOrder() {
        checks.sentence("==== 2", "each in RANK's order");
        WordMender x = new WordMender();
        Checks.add(x, "pa", 40);
        Checks.add(x, "pb", 41);
        Checks.add(x, "pab", 300);
        Checks.add(x, "q", 1);
        Checks.add(x, "qa", 101);
        x.model(1000);
        // Of pa: pa 0 - 40, pab 100 - 300, pb 100 - 41, q 200 - 1, qa 100 - 101.
        Checks.near(x, "pa", 200);
        checks.same("near()", Checks.found(x), "1:100 0:0 4:100 2:100 3:200");
        Checks.nearest(x, "pa", 5);
        checks.same("nearest()", Checks.found(x), "1:100 0:0 4:100 2:100 3:200");
        // Of pa the beginnings: pa 0, pab 0, p and pb 100, q 200, qa 100.
        Checks.complete(x, "pa", 200);
        checks.same("complete()", Checks.found(x), "1:0 0:0 4:100 2:100 3:200");
        Checks.add(x, "pb", 99);
        Checks.near(x, "pa", 200);
        checks.same("pb and pa are equal", Checks.found(x), "1:100 2:100 0:0 4:100 3:200");
    }

    private void foundAtMostTheBound() {
        checks.sentence("==== 2", "FOUND by near() are all WORDS whose DISTANCE to TYPED is at most the BOUND");
        WordMender x = Checks.with("abc", "abd", "axy", "xyz");
        int[][] due = {{0, 1}, {99, 1}, {100, 2}, {199, 2}, {200, 3}, {299, 3}, {300, 4}, {301, 4}};
        for (int[] d : due) checks.due("by " + d[0], Checks.near(x, "abc", d[0]), d[1]);
        x.price(1, 2, 3, 1);
        checks.due("abd costs abc 100 that way round", Checks.near(x, "abc", 99), 1);
        checks.due("abc costs abd 1", Checks.near(x, "abd", 1), 2);
        checks.due("which 0 does not pay", Checks.near(x, "abd", 0), 1);
    }

    private void foundByTheDistanceAlone() {
        checks.sentence("==== 2", "all WORDS whose DISTANCE to TYPED is at most the BOUND");
        WordMender x = new WordMender();
        x.model(100000);
        Checks.add(x, "abc", 100000);
        checks.due("a share does not make it near", Checks.near(x, "abd", 99), 0);
        checks.due("the bound does", Checks.near(x, "abd", 100), 1);
        checks.due("nor does it for complete()", Checks.complete(x, "zz", 99), 0);
    }

    private void nearTakesBounds() {
        checks.sentence("Promise 13", "THE TAPE has TYPED; BOUND 0 .. 99999: how many WORDS are FOUND.");
        WordMender x = Checks.with("a", TWELVE);
        checks.due("bound 0", Checks.near(x, "a", 0), 1);
        checks.due("bound 99999", Checks.near(x, "a", MOST_BOUND), 2);
        checks.due("bound 0, twelve letters", Checks.near(x, TWELVE, 0), 1);
        checks.due("nothing", Checks.near(x, "qq", 0), 0);
        checks.due("nothing is found", x.found(0, 0), WordMender.NONE);
        checks.due("how many", x.count(7), 0);
    }

    private void nearAtTheGreatestBound() {
        checks.sentence("Promise 13", "BOUND 0 .. 99999");
        WordMender x = Checks.with("bbbbbbbbbbc");
        for (int kind = 1; kind <= 6; kind++) x.price(kind, -1, -1, DEAREST);
        x.price(1, 2, 3, 9);
        checks.due("99999 off", Checks.near(x, "aaaaaaaaaad", MOST_BOUND), 1);
        checks.due("so far off", x.found(0, 1), MOST_BOUND);
        checks.due("99998 is too near", Checks.near(x, "aaaaaaaaaad", MOST_BOUND - 1), 0);
        x.price(1, 2, 3, 10);
        checks.due("100000 off", Checks.near(x, "aaaaaaaaaad", MOST_BOUND), 0);
        checks.due("nearest() has no bound", Checks.nearest(x, "aaaaaaaaaad", 1), 1);
        checks.due("100000", x.found(0, 1), 100000);
    }

    private void nearIsBad() {
        checks.sentence("Promise 13", "BAD.");
        for (int bound : new int[] {-1, -2, MIN, 100000, 100001, MAX}) {
            checks.refused("bound " + bound, WordMender.BAD, x -> Checks.near(x, "ab", bound));
        }
        for (String s : new String[] {"", "abcdefghijklm", "a b", "a=b", "A"}) {
            checks.refused("near of " + s, WordMender.BAD, x -> Checks.near(x, s, 100));
        }
    }

    private static WordMender words200() {
        WordMender x = new WordMender();
        for (int k = 0; k < 200; k++) Checks.add(x, "" + (char) ('a' + k / 26) + (char) ('a' + k % 26), 1 + k % 7);
        return x;
    }

    private void nearAll200() {
        checks.sentence("Promise 13", "how many WORDS are FOUND");
        WordMender x = words200();
        checks.due("all of them", Checks.near(x, "zzz", 300), 200);
        checks.due("the last one is there", x.found(199, 0) >= 0 ? 1 : 0, 1);
        checks.due("no 201st", x.found(200, 0), WordMender.NONE);
        checks.due("one alone", Checks.near(x, "hr", 0), 1);
        checks.due("it is the last one", x.found(0, 0), 199);
        checks.due("no second one any more", x.found(1, 0), WordMender.NONE);
    }

    private void nearestTakesN() {
        checks.sentence("Promise 14", "THE TAPE has TYPED; n 1 .. 200 (all, if there are fewer): how many are FOUND.");
        WordMender x = Checks.with("a", "b", "c");
        int[][] due = {{1, 1}, {2, 2}, {3, 3}, {4, 3}, {199, 3}, {200, 3}};
        for (int[] d : due) {
            checks.due("the first " + d[0], Checks.nearest(x, "b", d[0]), d[1]);
            checks.due("no other one", x.found(d[1], 0), WordMender.NONE);
            checks.due("the last one", x.found(d[1] - 1, 0) >= 0 ? 1 : 0, 1);
        }
        checks.due("no words", Checks.nearest(new WordMender(), "a", 1), 0);
        WordMender y = words200();
        for (int n : new int[] {1, 2, 198, 199, 200}) {
            checks.due("of 200 the first " + n, Checks.nearest(y, "hr", n), n);
            checks.due("of 200 no other one", y.found(n, 0), WordMender.NONE);
        }
    }

    private void nearestTheFirstOfAll() {
        checks.sentence("==== 2", "by nearest() the first n of all");
        // By RANK: c, b, a, then the far one.
        WordMender x = new WordMender();
        Checks.add(x, "a", 1);
        Checks.add(x, "b", 2);
        Checks.add(x, "c", 3);
        Checks.add(x, "dddddddddddd", 100000);
        String[] due = {"", "2:100", "2:100 1:100", "2:100 1:100 0:100", "2:100 1:100 0:100 3:1200"};
        for (int n = 1; n <= 4; n++) {
            Checks.nearest(x, "q", n);
            checks.same("the first " + n, Checks.found(x), due[n]);
        }
        x.model(12);
        Checks.nearest(x, "q", 1);
        checks.same("by its share", Checks.found(x), "3:1200");
    }

    private void nearestIsBad() {
        checks.sentence("Promise 14", "BAD.");
        for (int n : new int[] {0, -1, MIN, 201, 202, MAX}) {
            checks.refused("n " + n, WordMender.BAD, x -> Checks.nearest(x, "ab", n));
        }
        for (String s : new String[] {"", "abcdefghijklm", "a b", "a=b", "A"}) {
            checks.refused("nearest of " + s, WordMender.BAD, x -> Checks.nearest(x, s, 1));
        }
    }

    private void completeByTheEmptyOne() {
        checks.sentence("==== 2", "by complete() those with a beginning (whole ones and the empty one, too) whose DISTANCE to TYPED is at most the BOUND");
        WordMender x = Checks.with("abc", "b");
        x.price(1, -1, -1, DEAREST);
        x.price(3, -1, -1, 50);
        checks.due("the empty one is 50 off", Checks.complete(x, "z", 50), 2);
        checks.same("all by it", Checks.found(x), "0:50 1:50");
        checks.due("49 is too little", Checks.complete(x, "z", 49), 0);
        checks.due("twelve put in", Checks.complete(x, "zzzzzzzzzzzz", 600), 2);
        checks.due("599 is too little", Checks.complete(x, "zzzzzzzzzzzz", 599), 0);
        x.price(3, 25, -1, 1);
        checks.due("1 each", Checks.complete(x, "zzzzzzzzzzzz", 12), 2);
        checks.due("11 is too little", Checks.complete(x, "zzzzzzzzzzzz", 11), 0);
    }

    private void completeByWholeOnes() {
        checks.sentence("==== 2", "the least one of all beginnings counting as their DISTANCE");
        WordMender x = Checks.with(TWELVE, "abcdefghijk", "a");
        checks.due("the whole one", Checks.complete(x, TWELVE, 0), 1);
        checks.same("it alone", Checks.found(x), "2:0");
        checks.due("one letter less", Checks.complete(x, "abcdefghijk", 0), 2);
        checks.due("by a", Checks.complete(x, "a", 0), 3);
        checks.due("a and what begins so", Checks.complete(x, "ab", 100), 3);
        checks.same("the least of each", Checks.found(x), "1:0 2:0 0:100");
        checks.due("99 is too little for a", Checks.complete(x, "ab", 99), 2);
        checks.due("near() wants whole ones", Checks.near(x, "ab", 100), 1);
    }

    private void completeBelowWhatIsLeft() {
        checks.sentence("Promise 15", "THE WALK has the same STATES and NODES, but what is below a NODE is FOUND, too.");
        WordMender x = Checks.with(TWELVE, "abzzzzzzzzzz", "azzzzzzzzzzz", "b");
        checks.due("below ab", Checks.complete(x, "ab", 0), 2);
        checks.same("both of them", Checks.found(x), "0:0 1:0");
        int met = x.count(5);
        int left = x.count(6);
        String nodes = nodes(x);
        checks.due("near() finds none", Checks.near(x, "ab", 0), 0);
        checks.due("near() meets as many", x.count(5), met);
        checks.due("near() leaves as many", x.count(6), left);
        checks.same("the same nodes", nodes(x), nodes);
        checks.due("more than one is left", left > 1 ? 1 : 0, 1);
    }

    private static String nodes(WordMender x) {
        StringBuilder all = new StringBuilder();
        for (int i = 0; x.node(i, 0) >= 0; i++) {
            for (int what = 0; what < 8; what++) all.append(x.node(i, what)).append(' ');
        }
        return all.toString();
    }

    private void completeTakesBounds() {
        checks.sentence("Promise 15", "THE TAPE has TYPED; as near().");
        WordMender x = Checks.with("a", TWELVE);
        checks.due("bound 0", Checks.complete(x, "a", 0), 2);
        checks.due("bound 99999", Checks.complete(x, "q", MOST_BOUND), 2);
        checks.due("nothing", Checks.complete(x, "qq", 0), 0);
        checks.due("none is found", x.found(0, 0), WordMender.NONE);
        checks.due("no words", Checks.complete(new WordMender(), "a", MOST_BOUND), 0);
        WordMender y = words200();
        checks.due("all 200", Checks.complete(y, "z", 100), 200);
        checks.due("the last one", y.found(199, 1), 100);
        checks.due("no 201st", y.found(200, 1), WordMender.NONE);
    }

    private void completeIsBad() {
        checks.sentence("Promise 15", "BAD.");
        for (int bound : new int[] {-1, MIN, 100000, MAX}) {
            checks.refused("bound " + bound, WordMender.BAD, x -> Checks.complete(x, "ab", bound));
        }
        for (String s : new String[] {"", "abcdefghijklm", "a b", "a=b", "A"}) {
            checks.refused("complete of " + s, WordMender.BAD, x -> Checks.complete(x, s, 100));
        }
    }

    private void foundOfThen() {
        checks.sentence("Promise 16", "Of the i-th that was FOUND: 0 its number as it was then, 1 its DISTANCE, 2 its SHARE.");
        WordMender x = Checks.with("b", "c");
        x.model(1000);
        Checks.near(x, "c", 100);
        Checks.add(x, "a", 1);
        Checks.add(x, "c", 9);
        Checks.drop(x, "b");
        x.price(1, -1, -1, 1);
        x.model(0);
        int[][] due = {{1, 0, 1}, {0, 100, 1}};
        for (int i = 0; i < 2; i++) {
            for (int what = 0; what < 3; what++) checks.due("found " + i + " " + what, x.found(i, what), due[i][what]);
        }
        Checks.drop(x, "a");
        Checks.drop(x, "c");
        checks.due("of no words any more", x.found(0, 0), 1);
    }

    private void foundTellsNone() {
        checks.sentence("Promise 16", "NONE: no such.");
        for (int what = 0; what < 3; what++) checks.due("ahead of any " + what, new WordMender().found(0, what), WordMender.NONE);
        WordMender x = Checks.with("a", "b");
        Checks.near(x, "a", 100);
        checks.due("the last one", x.found(1, 0), 1);
        for (int i : new int[] {2, 3, 200, -1, -2, MIN, MAX}) {
            for (int what = 0; what < 3; what++) checks.due("found " + i + " " + what, x.found(i, what), WordMender.NONE);
        }
        Checks.near(x, "zzz", 0);
        checks.due("nothing was found", x.found(0, 0), WordMender.NONE);
    }

    private void foundIsBad() {
        checks.sentence("Promise 16", "BAD: what.");
        for (int what : new int[] {-1, -2, MIN, 3, 4, MAX}) {
            for (int i = 0; i < 2; i++) {
                int one = i;
                checks.refused("found " + one + " " + what, WordMender.BAD, x -> x.found(one, what));
            }
        }
    }

    private void nodeOfTheRoot() {
        checks.sentence("Promise 17", "0 its depth, 1 its last LETTER (NONE: the ROOT), 2 the least number in its STATE, "
                + "3 whether it was LEFT (1, 0), 4 whether it is a WORD, 5 + j place j of its STATE.");
        WordMender x = Checks.with("a", "z");
        Checks.near(x, "z", 0);
        int[][] due = {{0, -1, 0, 0, 0, 0, 100, -1}, {1, 0, 100, 0, 1, 100, 100, -1}, {1, 25, 0, 0, 1, 100, 0, -1}};
        for (int i = 0; i < due.length; i++) {
            for (int what = 0; what < due[i].length; what++) checks.due("node " + i + " " + what, x.node(i, what), due[i][what]);
        }
        checks.due("three of them", x.count(5), 3);
    }

    private void nodeTellsNone() {
        checks.sentence("Promise 17", "NONE: no such.");
        for (int what = 0; what < 7; what++) checks.due("ahead of any " + what, new WordMender().node(0, what), WordMender.NONE);
        WordMender x = Checks.with("ab");
        Checks.near(x, "ab", 0);
        checks.due("the last one's last number", x.node(2, 7), 0);
        for (int what : new int[] {8, 9, 18, 100, MAX - 1, MAX}) {
            for (int i = 0; i < 3; i++) checks.due("node " + i + " " + what, x.node(i, what), WordMender.NONE);
        }
        for (int i : new int[] {3, 4, 2401, -1, -2, MIN, MAX}) {
            for (int what : new int[] {0, 1, 2, 3, 4, 5, 99, MAX}) checks.due("node " + i + " " + what, x.node(i, what), WordMender.NONE);
        }
    }

    private void nodeIsBad() {
        checks.sentence("Promise 17", "BAD: what below 0.");
        for (int what : new int[] {-1, -2, -5, -6, MIN, MIN + 4}) {
            for (int i = 0; i < 3; i++) {
                int one = i;
                checks.refused("node " + one + " " + what, WordMender.BAD, x -> x.node(one, what));
            }
        }
    }

    private void nodeOfTheLatest() {
        checks.sentence("Promise 17", "Of the i-th NODE that the latest near(), complete() MET");
        WordMender x = Checks.with("ab", "b");
        Checks.near(x, "ab", 0);
        checks.due("refused", Checks.near(x, "ab", -1), WordMender.BAD);
        checks.due("refused, too", Checks.complete(x, "A", 0), WordMender.BAD);
        Checks.nearest(x, "zzzz", 1);
        Checks.mend(x, "zzzz", 0);
        Checks.drop(x, "ab");
        x.price(1, -1, -1, 1);
        checks.due("four were met", x.count(5), 4);
        checks.due("ab was a word", x.node(2, 4), 1);
        checks.due("its number of then", x.node(2, 7), 0);
        checks.due("b's number of then", x.node(3, 7), 100);
        checks.due("three numbers each", x.node(3, 8), WordMender.NONE);
        Checks.complete(x, "b", 0);
        checks.due("the latest met two", x.count(5), 2);
        checks.due("no third one any more", x.node(2, 0), WordMender.NONE);
    }
}
