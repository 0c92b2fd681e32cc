/** Promises 23 to 25: put, forge and status. */
public final class TraysTest {
    private static final Checks checks = new Checks();
    private static WordMender x;

    public static void main(String[] args) {
        promise23();
        promise23Wrong();
        promise23Then();
        promise24Reading();
        promise24Rest();
        promise24Copy();
        promise24Wrong();
        promise25();
        checks.end();
    }

    private static void put(int tray, int what, int n, int answer, int status) {
        String call = "23 put " + tray + " " + what + " " + n;
        checks.due(call, x.put(tray, what, n), answer);
        checks.due(call + " status", x.status(), status);
    }

    private static void forge(int tray, int what, int n, int answer, int status) {
        String call = "24 forge " + tray + " " + what + " " + n;
        checks.due(call, x.forge(tray, what, n), answer);
        checks.due(call + " status", x.status(), status);
    }

    /** Letters in TRAY 1, a STATE in 2, prices in 3, truths in 4, nothing in the others. */
    private static void fillTrays() {
        x = Checks.with("cabbage", "z");
        Checks.near(x, "ab", 100);
        put(1, 1, 0, 1, 0);
        put(2, 2, 1, 1, 0);
        x.price(6, -1, -1, 9999);
        put(3, 3, 0, 1, 0);
        put(4, 4, 0, 1, 0);
    }

    private static void promise23() {
        fillTrays();
        forge(1, 6, 0, -1, 14);
        put(1, 0, 0, 1, 0);
        forge(1, 6, 0, 0, 0);
        put(7, 1, 1, 1, 0);
        forge(7, 0, 0, 25, 0);
        forge(7, 0, 1, -1, 12);
        put(0, 3, -5, 1, 0);
        forge(0, 2, 0, 100, 0);
        put(0, 0, 777, 1, 0);
        forge(0, 2, 0, -1, 10);
        put(7, 2, 0, 1, 0);
        forge(7, 6, 0, 3, 0);
        put(7, 4, 1, 1, 0);
        forge(7, 3, 25, 1, 0);
        forge(7, 3, 0, 0, 0);
    }

    private static void promise23Wrong() {
        fillTrays();
        int[][] wrong = {{-1, 0, 0}, {8, 0, 0}, {0, -1, 0}, {0, 5, 0}, {1, 1, -1}, {1, 1, 2}, {2, 2, -1}, {2, 2, 100},
            {4, 4, 2}, {4, 4, -1}, {Integer.MAX_VALUE, 1, 0}, {1, Integer.MIN_VALUE, 0}, {1, 1, Integer.MAX_VALUE}};
        for (int[] w : wrong) put(w[0], w[1], w[2], -1, 1);
        forge(1, 0, 0, 2, 0);
        forge(2, 1, 0, 100, 0);
        forge(4, 3, 0, 1, 0);
        put(2, 2, x.count(5), -1, 1);
        put(2, 2, x.count(5) - 1, 1, 0);
        x = new WordMender();
        put(0, 2, 0, -1, 1);
        put(0, 1, 0, -1, 1);
        put(0, 4, 0, -1, 1);
        put(0, 3, 0, 1, 0);
    }

    private static void promise23Then() {
        fillTrays();
        Checks.drop(x, "cabbage");
        Checks.near(x, "qqqqqqqq", 500);
        x.price(6, -1, -1, 1);
        forge(1, 0, 6, 4, 0);
        forge(2, 6, 0, 3, 0);
        forge(2, 1, 2, 200, 0);
        forge(3, 2, 5, 9999, 0);
        forge(4, 3, 6, 1, 0);
        x.feed(3, 0);
        x.put(0, 1, 0);
        x.forge(0, 0, 0);
        checks.due("23 the tape stays", x.count(4), 3);
    }

    private static void promise24Reading() {
        fillTrays();
        int[] letters = {2, 0, 1, 1, 0, 6, 4};
        for (int n = 0; n < letters.length; n++) forge(1, 0, n, letters[n], 0);
        forge(1, 0, 7, -1, 12);
        forge(1, 0, -1, -1, 12);
        forge(1, 0, 100, -1, 12);
        int[] state = {100, 100, 200};
        for (int n = 0; n < state.length; n++) forge(2, 1, n, state[n], 0);
        forge(2, 1, 3, -1, 12);
        forge(2, 1, -100, -1, 12);
        int[] prices = {100, 100, 100, 100, 100, 9999};
        for (int n = 0; n < 6; n++) forge(3, 2, n, prices[n], 0);
        forge(3, 2, 6, -1, 12);
        forge(3, 2, -1, -1, 12);
        for (int n = 0; n < 26; n++) forge(4, 3, n, "abceg".indexOf('a' + n) >= 0 ? 1 : 0, 0);
        forge(4, 3, 26, -1, 12);
        forge(4, 3, -1, -1, 12);
        for (int what = 0; what < 4; what++) {
            forge(5, what, 0, -1, 10);
            forge(5, what, -1, -1, 10);
            for (int tray = 1; tray <= 4; tray++) {
                if (tray != what + 1) {
                    forge(tray, what, 0, -1, 11);
                    forge(tray, what, -1, -1, 11);
                }
            }
        }
    }

    private static void promise24Rest() {
        fillTrays();
        for (int tray = 0; tray < 8; tray++) {
            forge(tray, 4, 0, 0, 0);
            forge(tray, 4, 100, 100, 0);
            forge(tray, 4, -1, -1, 13);
            forge(tray, 4, -100, -1, 13);
            forge(tray, 7, 1, 1000, 0);
            forge(tray, 7, 3, 333, 0);
            forge(tray, 7, -3, -333, 0);
            forge(tray, 7, 100, 10, 0);
            forge(tray, 7, -100, -10, 0);
            forge(tray, 7, 0, -1, 15);
            forge(tray, 8, 0, -1, 10);
            forge(tray, 8, 5, -1, 10);
        }
        forge(0, 6, 0, 0, 0);
        forge(1, 6, 0, -1, 14);
        forge(2, 6, -7, 3, 0);
        forge(3, 6, 0, -1, 14);
        forge(4, 6, 0, -1, 14);
        forge(2, 1, 0, 100, 0);
        forge(1, 0, 0, 2, 0);
    }

    private static void promise24Copy() {
        fillTrays();
        forge(1, 5, 0, 0, 0);
        forge(1, 5, 1, 97, 0);
        forge(1, 5, 2, 97 + 98, 0);
        forge(1, 5, 3, 97 + 98 + 98, 0);
        forge(1, 5, 4, -1, 12);
        forge(1, 5, 100, -1, 12);
        forge(1, 5, -1, -1, 12);
        forge(1, 5, -100, -1, 12);
        forge(2, 5, 0, -1, 11);
        forge(3, 5, -1, -1, 11);
        forge(4, 5, 100, -1, 11);
        forge(0, 5, 0, -1, 10);
        forge(0, 5, -1, -1, 10);
        put(6, 1, 1, 1, 0);
        forge(6, 5, 0, 0, 0);
        forge(6, 5, 1, -1, 12);
        Checks.add(x, "zy", 1);
        put(6, 1, 2, 1, 0);
        forge(6, 5, 1, 121, 0);
        forge(6, 5, 2, -1, 12);
        Checks.add(x, "zyx", 1);
        put(6, 1, 3, 1, 0);
        forge(6, 5, 2, 241, 0);
        forge(6, 5, 3, -1, 12);
    }

    private static void promise24Wrong() {
        fillTrays();
        int[][] wrong = {{-1, 4, 5}, {8, 4, 5}, {1, -1, 0}, {1, 9, 0}, {1, 0, 101}, {1, 0, -101}, {0, 7, 101}, {0, 8, 101},
            {8, 8, 0}, {-1, 7, 0}, {0, 4, -101}, {0, 6, Integer.MIN_VALUE}, {1, 5, Integer.MAX_VALUE}, {Integer.MAX_VALUE, 0, 0}};
        for (int[] w : wrong) forge(w[0], w[1], w[2], -1, 1);
        forge(1, 0, 0, 2, 0);
    }

    private static void promise25() {
        x = new WordMender();
        checks.due("25 at first", x.status(), 0);
        x.forge(0, 7, 0);
        checks.due("25 refused", x.status(), 15);
        checks.due("25 again", x.status(), 15);
        x.near(-1);
        x.add(0);
        x.count(0);
        checks.due("25 of put and forge alone", x.status(), 15);
        x.put(0, 0, 0);
        checks.due("25 done", x.status(), 0);
        x.put(9, 0, 0);
        checks.due("25 put outside", x.status(), 1);
        x.forge(0, 7, 3);
        checks.due("25 forge done", x.status(), 0);
    }
}
