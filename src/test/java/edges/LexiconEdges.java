import java.util.TreeSet;

/** Edges of THE LEXICON: promises 3 to 7. */
final class LexiconEdges {
    private static final int MIN = Integer.MIN_VALUE, MAX = Integer.MAX_VALUE;
    private final Checks checks;

    LexiconEdges(Checks checks) {
        this.checks = checks;
    }

    void all() {
        wordsAre200();
        countsStayWithin();
        numbersAreFromZero();
        numbersAreByLetters();
        numbersAreOfNow();
        countsAreTaken();
        countsGrowToTheMost();
        countsOutsideAreBad();
        aRowThatIsNoneIsNotAdded();
        addIsFull();
        dropTellsTheCount();
        dropTellsNone();
        dropTheLastWord();
        dropIsBad();
        findTellsNumbers();
        findTellsNone();
        findIsBad();
        wordTellsLetters();
        wordTellsNone();
        wordIsBad();
        countsAtTheMost();
        countOfNodes();
        countIsBad();
    }

    /** The k-th of 676 rows of two LETTERS, by letters. */
    private static String two(int k) {
        return "" + (char) ('a' + k / 26) + (char) ('a' + k % 26);
    }

    private static WordMender withWords(int n) {
        WordMender x = new WordMender();
        for (int k = 0; k < n; k++) Checks.add(x, two(k), k + 1);
        return x;
    }

    private void wordsAre200() {
        checks.sentence("Terms", "200 WORDS at most");
        WordMender x = withWords(199);
        checks.due("199", x.count(0), 199);
        checks.due("the 200th", Checks.add(x, two(199), 200), 200);
        checks.due("200", x.count(0), 200);
        checks.due("the 201st", Checks.add(x, two(200), 1), WordMender.FULL);
        checks.due("still 200", x.count(0), 200);
        checks.due("the last one's count", x.word(199, 0), 200);
        checks.due("no other one", x.word(200, 0), WordMender.BAD);
        checks.due("it did not come", Checks.find(x, two(200)), WordMender.NONE);
    }

    private void countsStayWithin() {
        checks.sentence("Terms", "each a ROW of LETTERS with a COUNT (1 .. 100000)");
        WordMender x = new WordMender();
        int[] more = {0, -5, 1, MIN, 100000, MAX, 99999, 100001, 1};
        int[] due = {0, 0, 1, 1, 100000, 100000, 100000, 100000, 100000};
        for (int k = 0; k < more.length; k++) {
            Checks.add(x, "a", more[k]);
            checks.due("words after " + more[k], x.count(0), due[k] == 0 ? 0 : 1);
            checks.due("count after " + more[k], x.word(0, 0), due[k] == 0 ? WordMender.BAD : due[k]);
        }
    }

    private void numbersAreFromZero() {
        checks.sentence("Terms", "they have numbers from 0 on");
        WordMender x = Checks.with("q");
        checks.due("the only one", Checks.find(x, "q"), 0);
        checks.due("it is there", x.word(0, 2), 16);
        checks.due("no number 1", x.word(1, 0), WordMender.BAD);
        WordMender y = withWords(200);
        for (int k = 0; k < 200; k += 40) checks.due(two(k), Checks.find(y, two(k)), k);
        checks.due(two(199), Checks.find(y, two(199)), 199);
    }

    private void numbersAreByLetters() {
        checks.sentence("Terms", "by letters (a beginning first)");
        String[] sorted = {"a", "aa", "aaa", "aaaaaaaaaaaa", "ab", "ac", "az", "b", "ba", "bz", "z", "za", "zz", "zzzzzzzzzzzz"};
        int[][] orders = {{0, 1, 2, 3, 4, 5, 6, 7, 8, 9, 10, 11, 12, 13}, {13, 12, 11, 10, 9, 8, 7, 6, 5, 4, 3, 2, 1, 0},
            {6, 13, 0, 7, 1, 12, 3, 9, 2, 10, 5, 11, 4, 8}};
        for (int[] order : orders) {
            WordMender x = new WordMender();
            for (int k : order) Checks.add(x, sorted[k], k + 1);
            for (int w = 0; w < sorted.length; w++) {
                checks.due(sorted[w], Checks.find(x, sorted[w]), w);
                checks.due("count of " + sorted[w], x.word(w, 0), w + 1);
                checks.due("letters of " + sorted[w], x.word(w, 1), sorted[w].length());
            }
        }
    }

    private void numbersAreOfNow() {
        checks.sentence("Terms", "as they are now");
        WordMender x = Checks.with("b");
        Checks.add(x, "a", 1);
        checks.due("one came ahead", Checks.find(x, "b"), 1);
        Checks.add(x, "c", 1);
        checks.due("one came behind", Checks.find(x, "b"), 1);
        Checks.drop(x, "c");
        checks.due("one went behind", Checks.find(x, "b"), 1);
        Checks.drop(x, "a");
        checks.due("one went ahead", Checks.find(x, "b"), 0);
        WordMender y = withWords(200);
        Checks.drop(y, two(0));
        checks.due("the last one of 200 moves up", Checks.find(y, two(199)), 198);
        checks.due("its count goes with it", y.word(198, 0), 200);
        Checks.add(y, "a", 7);
        checks.due("and down again", Checks.find(y, two(199)), 199);
        checks.due("with its count", y.word(199, 0), 200);
        checks.due("the one ahead of all", y.word(0, 0), 7);
    }

    private void countsAreTaken() {
        checks.sentence("Promise 3", "THE TAPE's row becomes a WORD with a COUNT");
        WordMender x = new WordMender();
        checks.due("the least", Checks.add(x, "a", 1), 1);
        checks.due("the greatest", Checks.add(x, "b", 100000), 100000);
        checks.due("the shortest one is told", x.word(0, 0), 1);
        checks.due("the other one is told", x.word(1, 0), 100000);
        checks.due("twelve letters", Checks.add(x, "zzzzzzzzzzzz", 99999), 99999);
        checks.due("are told", x.word(2, 1), 12);
        checks.due("three words", x.count(0), 3);
    }

    private void countsGrowToTheMost() {
        checks.sentence("Promise 3", "or its COUNT is so much more (100000 at most): its COUNT.");
        int[][] sums = {{1, 1, 2}, {99998, 1, 99999}, {99999, 1, 100000}, {99999, 2, 100000}, {1, 99998, 99999}, {1, 99999, 100000},
            {1, 100000, 100000}, {50000, 50000, 100000}, {50000, 50001, 100000}, {100000, 1, 100000}, {100000, 100000, 100000}};
        for (int[] s : sums) {
            WordMender x = new WordMender();
            checks.due("at first " + s[0], Checks.add(x, "cat", s[0]), s[0]);
            checks.due(s[0] + " and " + s[1], Checks.add(x, "cat", s[1]), s[2]);
            checks.due(s[0] + " and " + s[1] + " are told", x.word(0, 0), s[2]);
            checks.due("one word", x.count(0), 1);
            checks.due(s[0] + " and " + s[1] + " are dropped", Checks.drop(x, "cat"), s[2]);
        }
    }

    private void countsOutsideAreBad() {
        checks.sentence("Promise 3", "BAD: also a count that is not 1 .. 100000.");
        for (int count : new int[] {0, -1, -100000, MIN, 100001, 200000, MAX}) {
            for (String row : new String[] {"ab", "new"}) {
                checks.refused("count " + count + " of " + row, WordMender.BAD, x -> {
                    Checks.feed(x, row);
                    return x.add(count);
                });
            }
        }
        checks.due("1", Checks.add(new WordMender(), "a", 1), 1);
        checks.due("100000", Checks.add(new WordMender(), "a", 100000), 100000);
    }

    private void aRowThatIsNoneIsNotAdded() {
        checks.sentence("Promise 3", "BAD");
        for (String s : new String[] {"", "abcdefghijklm", "a b", "a=b", "A", "`", "{", "\u00e9"}) {
            checks.refused("add of " + s, WordMender.BAD, x -> {
                Checks.feed(x, s);
                return x.add(1);
            });
        }
    }

    private void addIsFull() {
        checks.sentence("Promise 3", "FULL.");
        WordMender x = withWords(200);
        checks.due("one that would be the first", Checks.add(x, "a", 1), WordMender.FULL);
        checks.due("the tape is emptied", x.count(4), 0);
        checks.due("one that would be the last", Checks.add(x, "zz", 1), WordMender.FULL);
        checks.due("the first one stays", x.word(0, 0), 1);
        checks.due("the last one stays", x.word(199, 0), 200);
        checks.due("no node came", x.count(1), 1 + 8 + 200);
        checks.due("a known one grows", Checks.add(x, two(0), 99), 100);
        checks.due("the last one grows", Checks.add(x, two(199), 99999), 100000);
        checks.due("one goes", Checks.drop(x, two(100)), 101);
        checks.due("there is room for one", Checks.add(x, "zz", 5), 5);
        checks.due("it is the last one", x.word(199, 0), 5);
        checks.due("and for no other", Checks.add(x, "zy", 5), WordMender.FULL);
    }

    private void dropTellsTheCount() {
        checks.sentence("Promise 4", "the COUNT that it had");
        WordMender x = new WordMender();
        Checks.add(x, "a", 1);
        Checks.add(x, "b", 100000);
        Checks.add(x, "b", 1);
        checks.due("the least", Checks.drop(x, "a"), 1);
        checks.due("the greatest", Checks.drop(x, "b"), 100000);
        checks.due("it begins anew", Checks.add(x, "b", 3), 3);
    }

    private void dropTellsNone() {
        checks.sentence("Promise 4", "0: it was none.");
        WordMender x = new WordMender();
        checks.due("no words", Checks.drop(x, "a"), 0);
        Checks.add(x, "abc", 4);
        for (String s : new String[] {"a", "ab", "abcd", "abb", "abd", "zzzzzzzzzzzz"}) {
            checks.due(s, Checks.drop(x, s), 0);
            checks.due(s + " takes none away", x.count(0), 1);
        }
        checks.due("the word", Checks.drop(x, "abc"), 4);
        checks.due("it is none any more", Checks.drop(x, "abc"), 0);
        checks.refused("a row that is none", 0, y -> {
            Checks.feed(y, "a");
            return y.drop();
        });
    }

    private void dropTheLastWord() {
        checks.sentence("Promise 4", "THE TAPE's row is no WORD any more");
        WordMender x = Checks.with("ab", "abc", "b");
        Checks.drop(x, "abc");
        checks.due("a beginning stays", Checks.find(x, "ab"), 0);
        checks.due("a node goes", x.count(1), 4);
        Checks.drop(x, "ab");
        checks.due("the last one is number 0", Checks.find(x, "b"), 0);
        Checks.drop(x, "b");
        checks.due("no words", x.count(0), 0);
        checks.due("no nodes, the root neither", x.count(1), 0);
        checks.due("none is found", Checks.find(x, "b"), WordMender.NONE);
        checks.due("there is room", Checks.add(x, "b", 1), 1);
    }

    private void dropIsBad() {
        checks.sentence("Promise 4", "BAD.");
        for (String s : new String[] {"", "abcdefghijklm", "ab ", "ab=", "AB", "ab\0"}) {
            checks.refused("drop of " + s, WordMender.BAD, x -> {
                Checks.feed(x, s);
                return x.drop();
            });
        }
    }

    private void findTellsNumbers() {
        checks.sentence("Promise 5", "The number of THE TAPE's row");
        WordMender x = withWords(200);
        checks.due("the first one", Checks.find(x, two(0)), 0);
        checks.due("the second one", Checks.find(x, two(1)), 1);
        for (int k : new int[] {63, 64, 99, 100, 127, 128, 129, 191, 192, 198}) checks.due(two(k), Checks.find(x, two(k)), k);
        checks.due("the last one", Checks.find(x, two(199)), 199);
    }

    private void findTellsNone() {
        checks.sentence("Promise 5", "NONE: it is no WORD.");
        checks.due("no words", Checks.find(new WordMender(), "a"), WordMender.NONE);
        WordMender x = Checks.with("bcd", "bce", "bcefghijklmn");
        for (String s : new String[] {"a", "b", "bc", "bcc", "bcda", "bcdefghijklm", "bcefghijklm", "bcefghijklmo", "bcf", "c", "z"}) {
            checks.due(s, Checks.find(x, s), WordMender.NONE);
        }
        checks.refused("no word", WordMender.NONE, y -> {
            Checks.feed(y, "abcd");
            return y.find();
        });
    }

    private void findIsBad() {
        checks.sentence("Promise 5", "BAD.");
        for (String s : new String[] {"", "abcdefghijklm", " ab", "=ab", "Ab", "\0ab"}) {
            checks.refused("find of " + s, WordMender.BAD, x -> {
                Checks.feed(x, s);
                return x.find();
            });
        }
    }

    private void wordTellsLetters() {
        checks.sentence("Promise 6", "Of WORD w: 0 its COUNT, 1 how many LETTERS, 2 + i its i-th LETTER (0 for a .. 25)");
        WordMender x = new WordMender();
        Checks.add(x, "a", 1);
        Checks.add(x, "opqrstuvwxyz", 100000);
        int[][] due = {{1, 1, 0}, {100000, 12, 14, 15, 16, 17, 18, 19, 20, 21, 22, 23, 24, 25}};
        for (int w = 0; w < due.length; w++) {
            for (int what = 0; what < due[w].length; what++) checks.due("word " + w + " " + what, x.word(w, what), due[w][what]);
        }
    }

    private void wordTellsNone() {
        checks.sentence("Promise 6", "NONE: no such i.");
        // The second one ends where the longer one ahead of it goes on.
        WordMender x = Checks.with("abcdefghijkl", "b", "cdefghijklmn");
        checks.due("the last letter of twelve", x.word(0, 13), 11);
        checks.due("the only letter", x.word(1, 2), 1);
        for (int w = 0; w < 3; w++) {
            int size = x.word(w, 1);
            for (int what : new int[] {size + 2, size + 3, 14, 15, 100, MAX - 1, MAX}) {
                checks.due("word " + w + " " + what, x.word(w, what), WordMender.NONE);
            }
        }
    }

    private void wordIsBad() {
        checks.sentence("Promise 6", "BAD: no such WORD, what below 0.");
        WordMender x = Checks.with("ab", "cd");
        for (int w : new int[] {-1, MIN, 2, 3, 200, MAX}) {
            for (int what : new int[] {0, 1, 2, 99, -1}) checks.due("word " + w + " " + what, x.word(w, what), WordMender.BAD);
        }
        for (int what : new int[] {-1, -2, -3, MIN, MIN + 1}) checks.due("word 1 " + what, x.word(1, what), WordMender.BAD);
        checks.due("the last one", x.word(1, 0), 1);
        Checks.drop(x, "cd");
        checks.due("it is gone", x.word(1, 0), WordMender.BAD);
        checks.due("the other one", x.word(0, 0), 1);
        Checks.drop(x, "ab");
        checks.due("both are gone", x.word(0, 0), WordMender.BAD);
        checks.due("number 199 of 200", withWords(200).word(199, 3), 17);
        checks.due("number 200 of 200", withWords(200).word(200, 0), WordMender.BAD);
    }

    private void countsAtTheMost() {
        checks.sentence("Promise 7",
                "How many: 0 WORDS, 1 NODES of THE TREE, 2 SOUNDS, 3 PAIRS, 4 bytes of THE TAPE, "
                + "5 NODES that the latest near(), complete() MET, 6 of these LEFT, 7 FOUND by the latest near(), nearest(), complete().");
        WordMender x = withWords(200);
        checks.due("0 WORDS", x.count(0), 200);
        checks.due("1 NODES", x.count(1), 209);
        checks.due("met by near()", Checks.near(x, "zz", 99999), 200);
        checks.due("5 MET, all", x.count(5), 209);
        checks.due("6 LEFT, none", x.count(6), 0);
        checks.due("7 FOUND, all", x.count(7), 200);
        checks.due("nearest()", Checks.nearest(x, "zz", 1), 1);
        checks.due("7 FOUND by nearest()", x.count(7), 1);
        checks.due("5 is not of nearest()", x.count(5), 209);
        Checks.mend(x, "zz zz", 0);
        checks.due("5 is not of mend()", x.count(5), 209);
        checks.due("7 is not of mend()", x.count(7), 1);
        checks.due("complete()", Checks.complete(x, "a", 0), 26);
        checks.due("7 FOUND by complete()", x.count(7), 26);
        WordMender y = new WordMender();
        for (int k = 1; k <= 20; k++) {
            Checks.sound(y, "a=b", 1);
            checks.due("2 SOUNDS", y.count(2), k);
        }
        for (int k = 1; k <= 40; k++) {
            Checks.pair(y, "a=b");
            checks.due("3 PAIRS", y.count(3), k);
        }
        for (int k = 1; k <= 30; k++) y.feed(8, 0);
        checks.due("4 bytes", y.count(4), 240);
    }

    private void countOfNodes() {
        checks.sentence("==== 2", "a NODE for each beginning of WORDS (the empty one, too, the ROOT, if there are WORDS; whole WORDS, too)");
        checks.due("no words", new WordMender().count(1), 0);
        checks.due("one letter", Checks.with("a").count(1), 2);
        checks.due("twelve letters", Checks.with("aaaaaaaaaaaa").count(1), 13);
        checks.due("a beginning", Checks.with("aaaaaaaaaaaa", "a", "aaaaaaaaaaa").count(1), 13);
        checks.due("a longer one", Checks.with("a", "aaaaaaaaaaaa").count(1), 13);
        checks.due("none in common", Checks.with("aaaaaaaaaaaa", "b", "cc").count(1), 16);
        checks.due("all but the last letter in common", Checks.with("aaaaaaaaaaaa", "aaaaaaaaaaab").count(1), 14);
        WordMender x = new WordMender();
        TreeSet<String> beginnings = new TreeSet<>();
        for (int k = 0; k < 150; k++) {
            String word = two(k * 37 % 676) + "abcdefgh" + two(k);
            Checks.add(x, word, 1);
            for (int n = 0; n <= 12; n++) beginnings.add(word.substring(0, n));
            if (k % 10 == 9) checks.due(k + " long ones", x.count(1), beginnings.size());
        }
    }

    private void countIsBad() {
        checks.sentence("Promise 7", "BAD.");
        for (int what : new int[] {-1, MIN, 8, 9, MAX}) {
            checks.refused("count " + what, WordMender.BAD, x -> x.count(what));
        }
        checks.due("what 0", new WordMender().count(0), 0);
        checks.due("what 7", new WordMender().count(7), 0);
    }
}
