import java.util.SplittableRandom;

/** Random runs of calls on a WordMender and on the document's plain reading of itself. */
public final class OracleTest {
    private static final Checks checks = new Checks();
    /** One run of so many is that of a full object. */
    private static final int FULL_EACH = 50;
    private static SplittableRandom random;
    private static WordMender real;
    private static PlainMender plain;
    private static String run;
    private static int letters;
    private static int longest;

    public static void main(String[] args) {
        int runs = args.length > 0 ? Integer.parseInt(args[0]) : 300;
        int from = args.length > 1 ? Integer.parseInt(args[1]) : 0;
        for (int r = from; r < from + runs && checks.wrong() == 0; r++) go(r);
        checks.end();
    }

    private static void go(int seed) {
        random = new SplittableRandom(seed);
        real = new WordMender();
        plain = new PlainMender();
        letters = 2 + random.nextInt(seed % 5 == 0 ? 24 : 4);
        longest = seed % 3 == 0 ? 12 : 5;
        int calls = 60 + random.nextInt(120);
        if (seed % FULL_EACH == FULL_EACH - 1) {
            fill();
            calls = 25;
        } else if (random.nextInt(3) > 0) {
            for (int k = random.nextInt(30); k > 0; k--) addWord();
        }
        for (int k = 0; k < calls && checks.wrong() == 0; k++) {
            run = "run " + seed + " call " + k + ": ";
            step();
        }
        look();
    }

    /** As many WORDS, SOUNDS and PAIRS as there may be, and some that are refused. */
    private static void fill() {
        letters = 3 + random.nextInt(4);
        longest = 12;
        while (plain.count(0) < 200) addWord();
        longest = 7;
        while (plain.count(2) < 20) sound();
        while (plain.count(3) < 40) pair();
        addWord();
        sound();
        pair();
    }

    private static void step() {
        switch (random.nextInt(22)) {
            case 0: case 1: case 2: addWord(); break;
            case 3: tape(known()); due("drop", real.drop(), plain.drop()); break;
            case 4: tape(known()); due("find", real.find(), plain.find()); break;
            case 5: case 6: price(); break;
            case 7: sound(); break;
            case 8: { int w = odd(random.nextBoolean() ? 3000 : 100000, 100000); due("model " + w, real.model(w), plain.model(w)); break; }
            case 9: tape(two(longest)); due("distance", real.distance(), plain.distance()); ways(); break;
            case 10: case 11: { tape(known()); int b = bound(); due("near " + b, real.near(b), plain.near(b)); walked(); break; }
            case 12: { tape(known()); int n = odd(20, 200); due("nearest " + n, real.nearest(n), plain.nearest(n)); walked(); break; }
            case 13: case 14: { tape(known()); int b = bound(); due("complete " + b, real.complete(b), plain.complete(b)); walked(); break; }
            case 15: pair(); break;
            case 16: due("learn", real.learn(), plain.learn()); prices(); break;
            case 17: due("spread", real.spread(), plain.spread()); break;
            case 18: case 19: { tape(text()); int b = bound(); due("mend " + b, real.mend(b), plain.mend(b)); parts(); break; }
            case 20: trays(); break;
            default: junk(); break;
        }
    }

    private static void due(String call, long got, long want) {
        checks.due(run + call, got, want);
    }

    /** Most often below most, now and then outside what any call takes. */
    private static int odd(int usual, int most) {
        switch (random.nextInt(12)) {
            case 0: return 0;
            case 1: return -1 - random.nextInt(3);
            case 2: return most;
            case 3: return most + 1;
            default: return 1 + random.nextInt(usual);
        }
    }

    private static int bound() {
        return random.nextInt(8) == 0 ? odd(1000, 99999) : random.nextInt(6) * 50 + random.nextInt(2) * random.nextInt(100);
    }

    private static String row(int most) {
        StringBuilder s = new StringBuilder();
        for (int k = 1 + random.nextInt(most); k > 0; k--) s.append((char) ('a' + random.nextInt(letters)));
        return s.toString();
    }

    /** A WORD as it is, a WORD with a slip, or any row; seldom what is no row. */
    private static String known() {
        int choice = random.nextInt(20);
        if (choice == 0) return row(longest) + "=";
        if (choice == 1) return "abcdefghijklm".substring(random.nextInt(2));
        int size = plain.count(0);
        if (choice < 5 || size == 0) return row(longest);
        int w = random.nextInt(size);
        StringBuilder s = new StringBuilder();
        for (int k = 0; k < plain.word(w, 1); k++) s.append((char) ('a' + plain.word(w, 2 + k)));
        return choice < 9 ? s.toString() : slipped(s);
    }

    private static String slipped(StringBuilder s) {
        int at = random.nextInt(s.length());
        switch (random.nextInt(5)) {
            case 0: s.setCharAt(at, (char) ('a' + random.nextInt(letters))); break;
            case 1: s.deleteCharAt(at); break;
            case 2: s.insert(at, s.charAt(at)); break;
            case 3: s.insert(at, (char) ('a' + random.nextInt(letters))); break;
            default: s.setLength(1 + at); break;
        }
        return s.length() > 12 ? s.substring(0, 12) : s.toString();
    }

    private static String two(int most) {
        switch (random.nextInt(24)) {
            case 0: return row(most);
            case 1: return row(most) + "==" + row(most);
            case 2: return "=" + row(most);
            case 3: return row(most) + "=";
            case 4: return row(most) + "=" + row(most) + "A";
            default: {
                String meant = row(most);
                return meant + "=" + (random.nextBoolean() ? row(most) : trimmed(slipped(new StringBuilder(meant)), most));
            }
        }
    }

    private static String trimmed(String s, int most) {
        return s.isEmpty() ? "a" : s.length() > most ? s.substring(0, most) : s;
    }

    private static String text() {
        StringBuilder s = new StringBuilder();
        int rows = random.nextInt(20) == 0 ? 12 + random.nextInt(2) : 1 + random.nextInt(6);
        for (int k = 0; k < rows; k++) {
            if (k > 0) s.append(' ');
            String row = known();
            if (random.nextInt(4) == 0) row += known();
            if (random.nextInt(4) == 0 && row.length() > 1) {
                int cut = 1 + random.nextInt(row.length() - 1);
                row = row.substring(0, cut) + " " + row.substring(cut);
            }
            s.append(row.matches("[a-z ]+") || random.nextInt(10) == 0 ? row : "ab");
        }
        return s.length() > 240 ? s.substring(0, 240) : s.toString();
    }

    private static void tape(String s) {
        if (random.nextInt(40) == 0) s = "";
        for (int from = 0; from < s.length(); ) {
            int n = Math.min(1 + random.nextInt(8), s.length() - from);
            long bytes = Checks.bytes(s.substring(from, from + n));
            if (n < 8) bytes |= random.nextLong() << 8 * n;
            due("feed", real.feed(n, bytes), plain.feed(n, bytes));
            from += n;
        }
    }

    private static void addWord() {
        tape(row(longest));
        int c = random.nextInt(4) == 0 ? odd(100000, 100000) : 1 + random.nextInt(20);
        due("add " + c, real.add(c), plain.add(c));
    }

    private static void price() {
        int kind = random.nextInt(12) - 1;
        boolean byLetters = random.nextBoolean();
        int a = byLetters ? random.nextInt(letters) : random.nextInt(10) == 0 ? 26 : -1;
        int b = byLetters ? random.nextInt(letters + 1) - 1 : random.nextInt(10) == 0 ? 3 : -1;
        int v = odd(random.nextBoolean() ? 9999 : 150, 9999);
        due("price " + kind + " " + a + " " + b + " " + v, real.price(kind, a, b, v), plain.price(kind, a, b, v));
    }

    private static void sound() {
        tape(random.nextInt(10) == 0 ? two(4) : two(3));
        int v = odd(120, 9999);
        due("sound " + v, real.sound(v), plain.sound(v));
    }

    private static void pair() {
        tape(two(longest));
        due("pair", real.pair(), plain.pair());
    }

    private static void ways() {
        for (int i = -2; i <= plain.way(-1, 0); i++) {
            for (int what = -1; what < 6; what++) due("way " + i + " " + what, real.way(i, what), plain.way(i, what));
        }
    }

    private static void walked() {
        for (int what = -1; what < 9; what++) due("count " + what, real.count(what), plain.count(what));
        for (int i = -1; i <= plain.count(7); i++) {
            for (int what = -1; what < 4; what++) due("found " + i + " " + what, real.found(i, what), plain.found(i, what));
        }
        for (int i = -1; i <= plain.count(5); i++) {
            for (int what = -1; what < 19; what++) due("node " + i + " " + what, real.node(i, what), plain.node(i, what));
        }
    }

    private static void prices() {
        for (int k = -1; k < 11; k++) {
            int v = plain.price(k, -1, -1, 77);
            due("price of " + k, real.price(k, -1, -1, 77), v);
            if (v > 0) due("price back", real.price(k, -1, -1, v), plain.price(k, -1, -1, v));
        }
    }

    private static void parts() {
        for (int i = -2; i < 14; i++) {
            for (int what = -1; what < 6; what++) due("part " + i + " " + what, real.part(i, what), plain.part(i, what));
        }
    }

    private static void trays() {
        for (int k = 0; k < 12; k++) {
            int tray = random.nextInt(30) == 0 ? random.nextInt(2) * 9 - 1 : random.nextInt(8);
            int what = random.nextInt(7) - 1;
            int n = random.nextInt(6) - 1;
            due("put " + tray + " " + what + " " + n, real.put(tray, what, n), plain.put(tray, what, n));
            due("status", real.status(), plain.status());
        }
        for (int tray = -1; tray < 9; tray++) {
            for (int what = -1; what < 10; what++) {
                int n = random.nextInt(8) == 0 ? random.nextInt(204) - 102 : random.nextInt(15) - 2;
                due("forge " + tray + " " + what + " " + n, real.forge(tray, what, n), plain.forge(tray, what, n));
                due("status", real.status(), plain.status());
            }
        }
    }

    private static void junk() {
        int n = random.nextInt(11) - 1;
        long bytes = random.nextLong();
        due("feed " + n, real.feed(n, bytes), plain.feed(n, bytes));
    }

    private static void look() {
        walked();
        ways();
        parts();
        for (int w = -1; w <= plain.count(0); w++) {
            for (int what = -1; what < 16; what++) due("word " + w + " " + what, real.word(w, what), plain.word(w, what));
        }
        due("spread", real.spread(), plain.spread());
    }
}
