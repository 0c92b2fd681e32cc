/** Edges of TRAYS, of what the host refuses, and of STATUS: promises 23 to 25. */
final class TraysEdges {
    private static final int MIN = Integer.MIN_VALUE, MAX = Integer.MAX_VALUE;
    /** Why the host refuses. */
    private static final int OUTSIDE_WHAT_IS_TOLD = 1, NOTHING = 10, ANOTHER = 11, NO_PLACE = 12, BELOW_0 = 13, NO_FIT = 14, BY_0 = 15;
    /** In which TRAY filled() has them, and by which number put() and forge() know them. */
    private static final int LETTERS = 1, STATE = 2, PRICES = 3, TRUTHS = 4, EMPTY = 6;
    private final Checks checks;

    TraysEdges(Checks checks) {
        this.checks = checks;
    }

    void all() {
        traysAreZeroToSeven();
        nothingAtFirst();
        putNothing();
        thingsOfFourKinds();
        putLetters();
        putAState();
        putPrices();
        putTruths();
        putIsRefused();
        putOfThen();
        forgeIsOutside();
        nothingIsAsked();
        anotherThing();
        aPlaceOutside();
        aSizeBelowZero();
        whatDoesNotFit();
        dividedByZero();
        placesOfLetters();
        placesOfStates();
        placesOfPrices();
        placesOfTruths();
        rowsOfInts();
        copiesOfLetters();
        sumsOfCopies();
        copiesAreRefused();
        rowsOfRows();
        dividedByN();
        aFailureThatIsNone();
        refusalsChangeNothing();
        statusIsOfTheLatest();
        statusIsOfNoOtherCall();
    }

    private void put(WordMender x, int tray, int what, int n) {
        checks.due("put " + tray + " " + what + " " + n, x.put(tray, what, n), 1);
        checks.due("STATUS of put " + tray + " " + what + " " + n, x.status(), 0);
    }

    private void forge(WordMender x, int tray, int what, int n, int answer) {
        checks.due("forge " + tray + " " + what + " " + n, x.forge(tray, what, n), answer);
        checks.due("STATUS of forge " + tray + " " + what + " " + n, x.status(), 0);
    }

    private void refused(WordMender x, int tray, int what, int n, int status) {
        checks.due("forge " + tray + " " + what + " " + n, x.forge(tray, what, n), -1);
        checks.due("STATUS of forge " + tray + " " + what + " " + n, x.status(), status);
    }

    /** A STATE is that of the ROOT for a row of two LETTERS: 0, 100, 200. */
    private static WordMender filled() {
        WordMender x = Checks.with("abcdefghijkl", "z");
        Checks.near(x, "ab", 0);
        x.put(LETTERS, 1, 0);
        x.put(STATE, 2, 0);
        x.put(PRICES, 3, 0);
        x.put(TRUTHS, 4, 0);
        return x;
    }

    private void traysAreZeroToSeven() {
        checks.sentence("==== 5", "TRAYS 0 .. 7 hold a THING");
        WordMender x = Checks.with("b");
        for (int tray = 0; tray < 8; tray++) put(x, tray, tray % 2 == 0 ? 1 : 3, 0);
        for (int tray = 0; tray < 8; tray++) forge(x, tray, tray % 2 == 0 ? 0 : 2, 0, tray % 2 == 0 ? 1 : 100);
        for (int tray : new int[] {-1, -2, MIN, 8, 9, MAX}) {
            for (int what = 0; what <= 4; what++) {
                int w = what;
                checks.refusedByHost("put " + tray + " " + w, OUTSIDE_WHAT_IS_TOLD, y -> y.put(tray, w, 0));
            }
            for (int what = 0; what <= 8; what++) {
                int w = what;
                checks.refusedByHost("forge " + tray + " " + w, OUTSIDE_WHAT_IS_TOLD, y -> y.forge(tray, w, 1));
            }
        }
    }

    private void nothingAtFirst() {
        checks.sentence("==== 5", "nothing (at first)");
        WordMender x = new WordMender();
        for (int tray = 0; tray < 8; tray++) {
            forge(x, tray, 6, 0, 0);
            for (int what = 0; what < 4; what++) refused(x, tray, what, 0, NOTHING);
            refused(x, tray, 5, 0, NOTHING);
        }
        put(x, 0, 3, 0);
        forge(x, 0, 2, 0, 100);
        put(x, 0, 0, 0);
        refused(x, 0, 2, 0, NOTHING);
        forge(x, 0, 6, 0, 0);
    }

    private void putNothing() {
        checks.sentence("Promise 23", "A TRAY holds: what 0 nothing");
        WordMender x = filled();
        for (int tray = 0; tray < 8; tray++) {
            put(x, tray, 0, 0);
            forge(x, tray, 6, 0, 0);
            refused(x, tray, 0, 0, NOTHING);
        }
    }

    private void thingsOfFourKinds() {
        checks.sentence("==== 5", "a WORD's LETTERS (as bytes), a STATE (as ints), the six prices of KINDS (as shorts), "
                + "a truth for each LETTER (in the WORD; as booleans)");
        WordMender x = filled();
        for (int kind = 1; kind <= 6; kind++) x.price(kind, -1, -1, 9999);
        x.price(1, 0, 1, 5);
        Checks.near(x, "zzzzzzzzzzzz", 0);
        put(x, STATE, 2, 0);
        put(x, PRICES, 3, 0);
        put(x, LETTERS, 1, 1);
        put(x, TRUTHS, 4, 1);
        int[] last = {0, 0, 12, 5, 25};
        int[] due = {0, 25, 12 * 9999, 9999, 1};
        for (int tray = LETTERS; tray <= TRUTHS; tray++) {
            forge(x, tray, tray - 1, last[tray], due[tray]);
            refused(x, tray, tray - 1, last[tray] + 1, NO_PLACE);
        }
    }

    private void putLetters() {
        checks.sentence("Promise 23", "1 WORD n's LETTERS");
        WordMender x = Checks.with("abcdefghijkl", "b", "z");
        for (int n : new int[] {0, 1, 2}) put(x, n, 1, n);
        forge(x, 0, 0, 11, 11);
        forge(x, 1, 0, 0, 1);
        forge(x, 2, 0, 0, 25);
        for (int n : new int[] {-1, MIN, 3, 200, MAX}) {
            checks.due("word " + n, x.put(0, 1, n), -1);
            checks.due("word " + n + " STATUS", x.status(), OUTSIDE_WHAT_IS_TOLD);
            checks.refusedByHost("word " + n, OUTSIDE_WHAT_IS_TOLD, y -> y.put(1, 1, n == 3 ? 5 : n));
        }
        forge(x, 0, 0, 11, 11);
        checks.due("no words", new WordMender().put(0, 1, 0), -1);
    }

    private void putAState() {
        checks.sentence("Promise 23", "2 the STATE of the n-th NODE that the latest near(), complete() MET");
        WordMender x = new WordMender();
        checks.due("none was met", x.put(0, 2, 0), -1);
        checks.due("none was met: STATUS", x.status(), OUTSIDE_WHAT_IS_TOLD);
        Checks.add(x, "ab", 1);
        Checks.near(x, "abcdefghijkl", 0);
        put(x, 0, 2, 0);
        forge(x, 0, 6, 0, 13);
        forge(x, 0, 1, 12, 1200);
        put(x, 0, 2, 2);
        forge(x, 0, 1, 2, 0);
        for (int n : new int[] {-1, MIN, 3, 2401, MAX}) {
            checks.due("node " + n, x.put(0, 2, n), -1);
            checks.due("node " + n + " STATUS", x.status(), OUTSIDE_WHAT_IS_TOLD);
            checks.refusedByHost("node " + n, OUTSIDE_WHAT_IS_TOLD, y -> y.put(2, 2, n == 3 ? 12 : n));
        }
        forge(x, 0, 1, 2, 0);
        Checks.complete(x, "b", 0);
        put(x, 0, 2, 2);
        forge(x, 0, 6, 0, 2);
        Checks.drop(x, "ab");
        put(x, 0, 2, 2);
        Checks.near(x, "b", 0);
        checks.due("none was met by the latest", x.put(0, 2, 0), -1);
        forge(x, 0, 6, 0, 2);
    }

    private void putPrices() {
        checks.sentence("Promise 23", "3 prices of KINDS");
        WordMender x = new WordMender();
        for (int kind = 1; kind <= 6; kind++) x.price(kind, -1, -1, kind % 2 == 0 ? kind : 9999 - kind);
        x.price(8, -1, -1, 77);
        x.price(1, 0, 1, 78);
        put(x, 0, 3, 0);
        for (int n : new int[] {MIN, -101, -1, 1, 101, MAX}) put(x, 7, 3, n);
        for (int tray = 0; tray <= 7; tray += 7) {
            for (int kind = 1; kind <= 6; kind++) forge(x, tray, 2, kind - 1, kind % 2 == 0 ? kind : 9999 - kind);
            refused(x, tray, 2, 6, NO_PLACE);
        }
    }

    private void putTruths() {
        checks.sentence("Promise 23", "4 truths of WORD n");
        WordMender x = Checks.with("az", "bbbbbbbbbbbb");
        put(x, 0, 4, 0);
        put(x, 1, 4, 1);
        for (int n = 0; n < 26; n++) {
            forge(x, 0, 3, n, n == 0 || n == 25 ? 1 : 0);
            forge(x, 1, 3, n, n == 1 ? 1 : 0);
        }
        for (int n : new int[] {-1, MIN, 2, 200, MAX}) {
            checks.due("word " + n, x.put(0, 4, n), -1);
            checks.due("word " + n + " STATUS", x.status(), OUTSIDE_WHAT_IS_TOLD);
            checks.refusedByHost("truths of word " + n, OUTSIDE_WHAT_IS_TOLD, y -> y.put(4, 4, n == 2 ? 5 : n));
        }
        forge(x, 0, 3, 25, 1);
        checks.due("no words", new WordMender().put(0, 4, 0), -1);
    }

    private void putIsRefused() {
        checks.sentence("Promise 23", "Answers 1. STATUS 1.");
        for (int what : new int[] {-1, -2, MIN, 5, 6, 8, MAX}) {
            for (int tray : new int[] {0, 1, 7}) {
                checks.refusedByHost("put " + tray + " " + what, OUTSIDE_WHAT_IS_TOLD, x -> x.put(tray, what, 0));
            }
        }
        WordMender x = Checks.with("a");
        Checks.near(x, "a", 0);
        for (int what = 0; what <= 4; what++) put(x, 0, what, 0);
        put(x, 0, 0, MIN);
        put(x, 0, 0, MAX);
    }

    private void putOfThen() {
        checks.sentence("==== 5", "nothing is changed");
        WordMender x = filled();
        Checks.drop(x, "abcdefghijkl");
        Checks.near(x, "zzzzzzzz", 0);
        for (int kind = 1; kind <= 6; kind++) x.price(kind, -1, -1, 1);
        forge(x, LETTERS, 0, 11, 11);
        refused(x, LETTERS, 0, 12, NO_PLACE);
        forge(x, STATE, 1, 2, 200);
        refused(x, STATE, 1, 3, NO_PLACE);
        forge(x, PRICES, 2, 0, 100);
        forge(x, TRUTHS, 3, 0, 1);
    }

    private void forgeIsOutside() {
        checks.sentence("Promise 24", "(STATUS 1: another; no such TRAY; n outside -100 .. 100)");
        for (int what : new int[] {-1, MIN, 9, 10, MAX}) {
            checks.refusedByHost("forge by " + what, OUTSIDE_WHAT_IS_TOLD, x -> x.forge(1, what, 0));
        }
        WordMender x = filled();
        for (int what = 0; what <= 8; what++) {
            for (int n : new int[] {-101, -102, MIN, 101, 102, MAX}) {
                for (int tray : new int[] {0, LETTERS, STATE, PRICES, TRUTHS, 7}) refused(x, tray, what, n, OUTSIDE_WHAT_IS_TOLD);
            }
            x = filled();
        }
        forge(x, 0, 4, 100, 100);
        refused(x, 0, 4, -100, BELOW_0);
        forge(x, 0, 7, 100, 10);
        forge(x, 0, 7, -100, -10);
        forge(x, STATE, 6, 100, 3);
        forge(x, STATE, 6, -100, 3);
        refused(x, LETTERS, 0, 100, NO_PLACE);
        refused(x, LETTERS, 0, -100, NO_PLACE);
        refused(x, 0, 8, 100, NOTHING);
        refused(x, 0, 8, -100, NOTHING);
    }

    private void nothingIsAsked() {
        checks.sentence("==== 5", "STATUS 10 nothing where something is asked");
        WordMender x = filled();
        for (int what : new int[] {0, 1, 2, 3, 5}) {
            for (int n : new int[] {0, 1, -1, 100, -100}) refused(x, EMPTY, what, n, NOTHING);
        }
        forge(x, EMPTY, 4, 1, 1);
        forge(x, EMPTY, 6, 1, 0);
        forge(x, EMPTY, 7, 1, 1000);
    }

    private void anotherThing() {
        checks.sentence("==== 5", "11 a THING of another kind");
        WordMender x = filled();
        int[] wants = {LETTERS, STATE, PRICES, TRUTHS, -1, LETTERS};
        for (int what = 0; what <= 5; what++) {
            if (wants[what] < 0) continue;
            for (int tray = LETTERS; tray <= TRUTHS; tray++) {
                for (int n : new int[] {0, -1, 100}) {
                    if (tray != wants[what]) refused(x, tray, what, n, ANOTHER);
                }
            }
        }
    }

    private void aPlaceOutside() {
        checks.sentence("==== 5", "12 a place outside");
        WordMender x = filled();
        int[] sizes = {0, 12, 3, 6, 26};
        for (int tray = LETTERS; tray <= TRUTHS; tray++) {
            checks.due("the first place", x.forge(tray, tray - 1, 0) >= 0 ? 1 : 0, 1);
            checks.due("the last place", x.forge(tray, tray - 1, sizes[tray] - 1) >= 0 ? 1 : 0, 1);
            refused(x, tray, tray - 1, -1, NO_PLACE);
            refused(x, tray, tray - 1, sizes[tray], NO_PLACE);
        }
    }

    private void aSizeBelowZero() {
        checks.sentence("==== 5", "13 a size below 0");
        WordMender x = filled();
        forge(x, 0, 4, 0, 0);
        refused(x, 0, 4, -1, BELOW_0);
        refused(x, 0, 5, -1, NOTHING);
        refused(x, LETTERS, 5, -1, NO_PLACE);
    }

    private void whatDoesNotFit() {
        checks.sentence("==== 5", "14 a THING that does not fit");
        WordMender x = filled();
        for (int tray = 0; tray < 8; tray++) {
            if (tray == LETTERS || tray == PRICES || tray == TRUTHS) refused(x, tray, 6, 0, NO_FIT);
            else forge(x, tray, 6, 0, tray == STATE ? 3 : 0);
        }
    }

    private void dividedByZero() {
        checks.sentence("==== 5", "15 divided by 0");
        WordMender x = filled();
        forge(x, 0, 7, -1, -1000);
        refused(x, 0, 7, 0, BY_0);
        forge(x, 0, 7, 1, 1000);
    }

    private void placesOfLetters() {
        checks.sentence("Promise 24", "0 it is taken for LETTERS (11), its n-th one (0 for a): 10, 12.");
        WordMender x = filled();
        for (int n = 0; n < 12; n++) forge(x, LETTERS, 0, n, n);
        for (int n : new int[] {-1, -100, 12, 13, 25, 26, 100}) refused(x, LETTERS, 0, n, NO_PLACE);
        put(x, 0, 1, 1);
        forge(x, 0, 0, 0, 25);
        for (int n : new int[] {-1, 1, 2, 11}) refused(x, 0, 0, n, NO_PLACE);
        put(x, LETTERS, 1, 1);
        refused(x, LETTERS, 0, 1, NO_PLACE);
    }

    private void placesOfStates() {
        checks.sentence("Promise 24", "1 for a STATE (11), its place n: 10, 12.");
        WordMender x = filled();
        for (int n = 0; n < 3; n++) forge(x, STATE, 1, n, 100 * n);
        for (int n : new int[] {-1, -100, 3, 4, 12, 100}) refused(x, STATE, 1, n, NO_PLACE);
        Checks.near(x, "abcdefghijkl", 0);
        put(x, STATE, 2, 12);
        forge(x, STATE, 1, 12, 0);
        forge(x, STATE, 1, 0, 1200);
        refused(x, STATE, 1, 13, NO_PLACE);
        Checks.near(x, "z", 0);
        put(x, STATE, 2, 0);
        forge(x, STATE, 1, 1, 100);
        refused(x, STATE, 1, 2, NO_PLACE);
    }

    private void placesOfPrices() {
        checks.sentence("Promise 24", "2 for prices (11), that of KIND n + 1: 10, 12.");
        WordMender x = new WordMender();
        int[] v = {1, 9999, 127, 128, 255, 256};
        for (int kind = 1; kind <= 6; kind++) x.price(kind, -1, -1, v[kind - 1]);
        put(x, 0, 3, 0);
        for (int n = 0; n < 6; n++) forge(x, 0, 2, n, v[n]);
        for (int n : new int[] {-1, -100, 6, 7, 8, 100}) refused(x, 0, 2, n, NO_PLACE);
    }

    private void placesOfTruths() {
        checks.sentence("Promise 24", "3 for truths (11), that of LETTER n (1, 0): 10, 12.");
        WordMender x = filled();
        for (int n = 0; n < 26; n++) forge(x, TRUTHS, 3, n, n < 12 ? 1 : 0);
        for (int n : new int[] {-1, -100, 26, 27, 100}) refused(x, TRUTHS, 3, n, NO_PLACE);
    }

    private void rowsOfInts() {
        checks.sentence("Promise 24", "4 a row of n ints is made: 13; answers n.");
        WordMender x = filled();
        for (int tray = 0; tray < 8; tray++) {
            for (int n : new int[] {0, 1, 2, 99, 100}) forge(x, tray, 4, n, n);
            for (int n : new int[] {-1, -2, -99, -100}) refused(x, tray, 4, n, BELOW_0);
        }
        forge(x, STATE, 1, 2, 200);
    }

    private void copiesOfLetters() {
        checks.sentence("Promise 24", "5 n LETTERS of it, from its second one on, taken for LETTERS (11), "
                + "are copied to a new row of 6 from place n on");
        WordMender x = filled();
        int sum = 0;
        for (int n = 0; n <= 3; n++) {
            sum += n == 0 ? 0 : 'a' + n;
            forge(x, LETTERS, 5, n, sum);
        }
        for (int n : new int[] {4, 5, 6, 11, 12, 100}) refused(x, LETTERS, 5, n, NO_PLACE);
        Checks.add(x, "zzzz", 1);
        put(x, LETTERS, 1, 2);
        forge(x, LETTERS, 5, 3, 3 * 122);
        refused(x, LETTERS, 5, 4, NO_PLACE);
        Checks.add(x, "baaa", 1);
        put(x, LETTERS, 1, 1);
        forge(x, LETTERS, 5, 3, 3 * 97);
    }

    private void sumsOfCopies() {
        checks.sentence("Promise 24", "answers the sum of the row (bytes 97 .. 122)");
        WordMender x = Checks.with("baaa", "azzz", "q");
        int[][] sums = {{0, 97, 194, 291}, {0, 122, 244, 366}};
        // By letters azzz is number 0.
        for (int k = 0; k < 2; k++) {
            put(x, k, 1, 1 - k);
            for (int n = 0; n <= 3; n++) forge(x, k, 5, n, sums[k][n]);
        }
        put(x, 2, 1, 2);
        forge(x, 2, 5, 0, 0);
    }

    private void copiesAreRefused() {
        checks.sentence("Promise 24", "10, 12 (n below 0, or they do not stand there in both)");
        WordMender x = new WordMender();
        String[] words = {"a", "ab", "abc", "abcd", "abcde"};
        for (int k = 0; k < words.length; k++) {
            Checks.add(x, words[k], 1);
            put(x, 0, 1, k);
            for (int n = 0; n <= 5; n++) {
                if (n < words[k].length() && n <= 3) forge(x, 0, 5, n, 97 * n + n * (n + 1) / 2);
                else refused(x, 0, 5, n, NO_PLACE);
            }
            for (int n : new int[] {-1, -2, -100}) refused(x, 0, 5, n, NO_PLACE);
        }
        refused(x, EMPTY, 5, 0, NOTHING);
        refused(x, EMPTY, 5, -1, NOTHING);
    }

    private void rowsOfRows() {
        checks.sentence("Promise 24", "6 it is laid into a row that takes rows of ints (14: it is another THING); answers how many it has (0: nothing).");
        WordMender x = filled();
        for (int n : new int[] {0, -1, 100, -100}) {
            forge(x, EMPTY, 6, n, 0);
            forge(x, STATE, 6, n, 3);
            refused(x, LETTERS, 6, n, NO_FIT);
            refused(x, PRICES, 6, n, NO_FIT);
            refused(x, TRUTHS, 6, n, NO_FIT);
        }
        Checks.near(x, "a", 0);
        put(x, STATE, 2, 0);
        forge(x, STATE, 6, 0, 2);
        Checks.near(x, "abcdefghijkl", 0);
        put(x, STATE, 2, 0);
        forge(x, STATE, 6, 0, 13);
    }

    private void dividedByN() {
        checks.sentence("Promise 24", "7 1000 is divided by n: 15; answers it.");
        WordMender x = filled();
        for (int tray = 0; tray < 8; tray++) {
            refused(x, tray, 7, 0, BY_0);
            int[][] due = {{1, 1000}, {-1, -1000}, {3, 333}, {-3, -333}, {7, 142}, {99, 10}, {100, 10}, {-99, -10}, {-100, -10}};
            for (int[] d : due) forge(x, tray, 7, d[0], d[1]);
        }
    }

    private void aFailureThatIsNone() {
        checks.sentence("Promise 24", "8 a failure is thrown that is none: 10.");
        WordMender x = filled();
        for (int tray = 0; tray < 8; tray++) {
            for (int n : new int[] {0, 1, -1, 100, -100}) refused(x, tray, 8, n, NOTHING);
        }
    }

    private void refusalsChangeNothing() {
        checks.sentence("==== 5", "then a call answers -1, and nothing is changed");
        int[][] refusals = {{7, 0, 0, NOTHING}, {7, 5, 0, NOTHING}, {1, 8, 0, NOTHING}, {1, 1, 0, ANOTHER}, {2, 0, 0, ANOTHER},
            {3, 5, 0, ANOTHER}, {4, 2, 0, ANOTHER}, {1, 0, 3, NO_PLACE}, {2, 1, 4, NO_PLACE}, {3, 2, 6, NO_PLACE}, {4, 3, 26, NO_PLACE},
            {1, 5, 3, NO_PLACE}, {1, 5, -1, NO_PLACE}, {1, 4, -1, BELOW_0}, {1, 6, 0, NO_FIT}, {3, 6, 0, NO_FIT}, {4, 6, 0, NO_FIT},
            {1, 7, 0, BY_0}, {0, 9, 0, OUTSIDE_WHAT_IS_TOLD}};
        for (int[] r : refusals) {
            checks.refusedByHost("forge " + r[0] + " " + r[1] + " " + r[2], r[3], x -> x.forge(r[0], r[1], r[2]));
        }
    }

    private void statusIsOfTheLatest() {
        checks.sentence("==== 5", "STATUS is of the latest put(), forge(): 0 done, 1 a number is none such or outside what is told (-1, too).");
        WordMender x = filled();
        int[][] calls = {{1, 0, 0, 0}, {7, 0, 0, NOTHING}, {2, 0, 0, ANOTHER}, {1, 0, 12, NO_PLACE}, {1, 4, -1, BELOW_0},
            {1, 6, 0, NO_FIT}, {1, 7, 0, BY_0}, {8, 7, 1, OUTSIDE_WHAT_IS_TOLD}};
        for (int[] c : calls) {
            for (int[] after : calls) {
                x.forge(after[0], after[1], after[2]);
                x.forge(c[0], c[1], c[2]);
                checks.due("STATUS of " + c[0] + " " + c[1] + " " + c[2], x.status(), c[3]);
            }
            x.put(0, 0, 0);
            checks.due("STATUS of put", x.status(), 0);
            x.put(0, 1, -1);
            checks.due("STATUS of a refused put", x.status(), OUTSIDE_WHAT_IS_TOLD);
        }
    }

    private void statusIsOfNoOtherCall() {
        checks.sentence("Promise 25", "STATUS.");
        checks.due("ahead of any", new WordMender().status(), 0);
        WordMender x = filled();
        for (int tray = 0; tray <= 7; tray += 7) {
            x.forge(tray, 7, tray);
            int due = tray == 0 ? BY_0 : 0;
            x.feed(0, 0);
            x.add(0);
            x.drop();
            x.find();
            x.word(-1, 0);
            x.count(-1);
            x.price(0, 0, 0, 0);
            x.sound(0);
            x.model(-1);
            x.distance();
            x.way(0, -1);
            x.near(-1);
            x.nearest(0);
            x.complete(-1);
            x.found(0, -1);
            x.node(0, -1);
            x.pair();
            x.learn();
            x.spread();
            x.mend(-1);
            x.part(0, -1);
            Checks.find(x, "z");
            Checks.near(x, "z", 0);
            checks.due("STATUS after all others", x.status(), due);
            checks.due("and again", x.status(), due);
        }
    }
}
