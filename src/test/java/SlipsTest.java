/** Promises 8 to 12: prices, SOUNDS, THE MODEL, DISTANCE and THE WAY. */
public final class SlipsTest {
    private static final Checks checks = new Checks();

    public static void main(String[] args) {
        promise8();
        promise8Wrong();
        promise9();
        promise10();
        promise11();
        promise11Edges();
        promise11Wrong();
        promise12();
        promise12Ties();
        promise12Then();
        checks.end();
    }

    private static void promise8() {
        WordMender x = new WordMender();
        for (int kind = 1; kind <= 6; kind++) {
            checks.due("8 kind " + kind, x.price(kind, -1, -1, 10 * kind), 100);
            checks.due("8 kind again " + kind, x.price(kind, -1, -1, 9999), 10 * kind);
        }
        checks.due("8 splits", x.price(8, -1, -1, 1), 60);
        checks.due("8 joins", x.price(9, -1, -1, 2), 60);
        checks.due("8 splits again", x.price(8, -1, -1, 1), 1);
        checks.due("8 joins again", x.price(9, -1, -1, 2), 2);
        checks.due("8 a to b", x.price(1, 0, 1, 30), 0);
        checks.due("8 b to a is another", x.price(1, 1, 0, 31), 0);
        checks.due("8 swap a to b", Checks.distance(x, "a=b"), 30);
        checks.due("8 swap b to a", Checks.distance(x, "b=a"), 31);
        checks.due("8 swap of others", Checks.distance(x, "a=c"), 9999);
        checks.due("8 left out a", x.price(2, 0, -1, 40), 0);
        checks.due("8 b does not matter", x.price(2, 0, 77, 41), 40);
        checks.due("8 put in a", x.price(3, 0, Integer.MIN_VALUE, 50), 0);
        checks.due("8 put in is another", x.price(3, 0, -1, 51), 50);
        checks.due("8 left out", Checks.distance(x, "za=z"), 41);
        checks.due("8 put in", Checks.distance(x, "z=za"), 51);
        checks.due("8 none any more", x.price(1, 0, 1, 0), 30);
        checks.due("8 it was none", x.price(1, 0, 1, 0), 0);
        checks.due("8 the kind's own", x.price(1, -1, -1, 35), 9999);
        checks.due("8 swap by the kind", Checks.distance(x, "a=b"), 35);
        checks.due("8 left out goes", x.price(2, 0, -1, 0), 41);
        checks.due("8 put in goes", x.price(3, 0, -1, 0), 51);
        x.price(1, 0, 1, 1);
        checks.due("8 the least by letters", Checks.distance(x, "a=b"), 1);
        checks.due("8 the last letters", x.price(1, 25, 24, 9999), 0);
        checks.due("8 most by letters", x.price(1, 25, 24, 9999), 9999);
        checks.due("8 the kind stays", x.price(1, -1, -1, 35), 35);
    }

    private static void promise8Wrong() {
        WordMender x = new WordMender();
        int[][] wrong = {
            {0, -1, -1, 5}, {7, -1, -1, 5}, {10, -1, -1, 5}, {-1, -1, -1, 5}, {1, -1, -1, 0}, {1, -1, -1, 10000},
            {1, -1, -1, -1}, {1, 0, 0, 5}, {1, 0, -1, 5}, {1, -1, 0, 5}, {1, 26, 0, 5}, {1, 0, 26, 5}, {1, -2, 0, 5},
            {1, 0, 1, -1}, {1, 0, 1, 10000}, {2, 26, -1, 5}, {2, -2, -1, 5}, {2, -1, 0, 5}, {2, 0, -1, 10000}, {3, 26, 0, 5},
            {3, -1, 5, 5}, {4, 0, 1, 5}, {5, 0, -1, 5}, {6, 0, -1, 5}, {8, 0, -1, 5}, {9, 0, 1, 5}, {7, 0, 1, 5},
            {8, -1, -1, 0}, {9, -1, -1, 10000}, {1, Integer.MAX_VALUE, 1, 5}, {1, 1, Integer.MAX_VALUE, 5}, {0, 0, 1, 5}};
        for (int[] w : wrong) {
            checks.due("8 " + java.util.Arrays.toString(w), x.price(w[0], w[1], w[2], w[3]), -2);
        }
        for (int kind = 1; kind <= 6; kind++) checks.due("8 nothing changed " + kind, x.price(kind, -1, -1, 1), 100);
        checks.due("8 splits not changed", x.price(8, -1, -1, 1), 60);
        checks.due("8 joins not changed", x.price(9, -1, -1, 1), 60);
        x.feed(3, 0);
        x.price(1, -1, -1, 5);
        checks.due("8 the tape stays", x.count(4), 3);
    }

    private static void promise9() {
        WordMender x = new WordMender();
        checks.due("9 first", Checks.sound(x, "abc=def", 1), 0);
        checks.due("9 the same again", Checks.sound(x, "abc=def", 9999), 1);
        for (String s : new String[] {"", "a", "a=", "=a", "a==b", "abcd=a", "a=abcd", "A=b", "a=b=c", "a =b"}) {
            checks.due("9 no sound " + s, Checks.sound(x, s, 5), -2);
            checks.due("9 emptied " + s, x.count(4), 0);
        }
        checks.due("9 price 0", Checks.sound(x, "a=b", 0), -2);
        checks.due("9 price -1", Checks.sound(x, "a=b", -1), -2);
        checks.due("9 price 10000", Checks.sound(x, "a=b", 10000), -2);
        checks.due("9 emptied", x.count(4), 0);
        checks.due("9 so many", x.count(2), 2);
        for (int k = 2; k < 20; k++) checks.due("9 sound " + k, Checks.sound(x, "a=b", 40 - k), k);
        checks.due("9 full", Checks.sound(x, "a=b", 5), -4);
        checks.due("9 full empties", x.count(4), 0);
        checks.due("9 bad ahead of full", Checks.sound(x, "a=b", 0), -2);
        checks.due("9 twenty", x.count(2), 20);
        checks.due("9 the last one is the cheapest", Checks.distance(x, "a=b"), 21);
        checks.due("9 its number", x.way(0, 4), 19);
        checks.due("9 three letters", Checks.distance(x, "abcz=defz"), 1);
    }

    private static void promise10() {
        WordMender x = new WordMender();
        checks.due("10 at first", x.model(100000), 0);
        checks.due("10 most", x.model(0), 100000);
        checks.due("10 none", x.model(1), 0);
        checks.due("10 too much", x.model(100001), -2);
        checks.due("10 below", x.model(-1), -2);
        checks.due("10 a refusal changes nothing", x.model(300), 1);
        Checks.add(x, "cat", 7);
        Checks.nearest(x, "cat", 1);
        checks.due("10 the share is cut", x.found(0, 2), (int) ((300 / 1000f) * 7));
        x.model(100000);
        Checks.add(x, "cat", 100000);
        Checks.nearest(x, "cat", 1);
        checks.due("10 the greatest share", x.found(0, 2), 10000000);
        // In floats 0.7f * 10 is 7 and 0.009f * 1000 is 9; floats and doubles part at some of these.
        for (int weight = 1; weight < 100000; weight += 997) {
            WordMender y = new WordMender();
            y.model(weight);
            int count = 1 + weight * 31 % 100000;
            Checks.add(y, "a", count);
            Checks.nearest(y, "a", 1);
            checks.due("10 share " + weight + " " + count, y.found(0, 2), (int) ((weight / 1000f) * (float) count));
        }
    }

    private static void promise11() {
        WordMender x = new WordMender();
        for (int kind = 1; kind <= 6; kind++) x.price(kind, -1, -1, 100 + kind);
        checks.due("11 same", Checks.distance(x, "cat=cat"), 0);
        checks.due("11 swap", Checks.distance(x, "cat=cut"), 101);
        checks.due("11 left out", Checks.distance(x, "cat=ct"), 102);
        checks.due("11 put in", Checks.distance(x, "cat=cart"), 103);
        checks.due("11 turned", Checks.distance(x, "cat=cta"), 104);
        checks.due("11 doubled", Checks.distance(x, "cat=catt"), 103);
        checks.due("11 halved", Checks.distance(x, "caat=cat"), 102);
        x.price(3, -1, -1, 900);
        x.price(2, -1, -1, 900);
        checks.due("11 doubled is cheaper", Checks.distance(x, "cat=catt"), 105);
        checks.due("11 halved is cheaper", Checks.distance(x, "caat=cat"), 106);
        checks.due("11 doubled in front", Checks.distance(x, "cat=ccat"), 105);
        Checks.sound(x, "ight=ite", 5);
        checks.due("11 a first row of four is none", x.count(2), 0);
        Checks.sound(x, "igh=i", 7);
        checks.due("11 sound", Checks.distance(x, "light=lit"), 7);
        checks.due("11 only that way round", Checks.distance(x, "lit=light"), 1800);
        checks.due("11 two sounds", Checks.distance(x, "ighighs=iis"), 14);
        Checks.sound(x, "a=eau", 8);
        checks.due("11 to three letters", Checks.distance(x, "ba=beau"), 8);
    }

    private static void promise11Edges() {
        WordMender x = new WordMender();
        checks.due("11 twelve of them", Checks.distance(x, "abcdefghijkl=mnopqrstuvwx"), 1200);
        checks.due("11 twelve and one", Checks.distance(x, "abcdefghijkl=l"), 1100);
        checks.due("11 one and twelve", Checks.distance(x, "a=bcdefghijkla"), 1100);
        x.price(1, -1, -1, 9999);
        x.price(2, -1, -1, 9999);
        x.price(3, -1, -1, 9999);
        checks.due("11 dearest by swaps", Checks.distance(x, "abcdefghijkl=mnopqrstuvwx"), 119988);
        for (int a = 0; a < 12; a++) for (int b = 12; b < 24; b++) x.price(1, a, b, 9998);
        checks.due("11 by letters", Checks.distance(x, "abcdefghijkl=mnopqrstuvwx"), 12 * 9998);
        WordMender y = new WordMender();
        checks.due("11 turned letters are unlike", Checks.distance(y, "aa=aa"), 0);
        checks.due("11 no slip within a turned pair", Checks.distance(y, "ab=bca"), 300);
        checks.due("11 turned twice", Checks.distance(y, "abab=baba"), 200);
        checks.due("11 tripled", Checks.distance(y, "a=aaa"), 200);
        y.price(5, -1, -1, 1);
        checks.due("11 doubled once and put in", Checks.distance(y, "a=aaa"), 101);
        checks.due("11 doubled twice", Checks.distance(y, "aa=aaaa"), 2);
    }

    private static void promise11Wrong() {
        WordMender x = new WordMender();
        Checks.distance(x, "ab=ba");
        for (String s : new String[] {"", "a", "=", "a=", "=a", "a=b=", "a=b=c", "a = b", "A=b", "a=B", "abcdefghijklm=a",
            "a=abcdefghijklm", "a\0=b"}) {
            checks.due("11 no two rows " + s, Checks.distance(x, s), -2);
            checks.due("11 emptied " + s, x.count(4), 0);
        }
        checks.due("12 a refusal changes nothing", x.way(-1, 0), 1);
        checks.due("12 still turned", x.way(0, 0), 4);
        Checks.distance(x, "q=q");
        checks.due("11 the tape is emptied", x.count(4), 0);
    }

    private static void promise12() {
        WordMender y = new WordMender();
        Checks.sound(y, "f=ph", 10);
        checks.due("12 all kinds", Checks.distance(y, "abfoo=baphoz"), 210);
        checks.same("12 its kinds", Checks.way(y), "4(0)01");
        int[][] slips = {{4, 100, 0, 0, -1}, {7, 10, 2, 2, 0}, {0, 0, 3, 4, -1}, {1, 100, 4, 5, -1}};
        for (int i = 0; i < slips.length; i++) {
            for (int what = 0; what < 5; what++) checks.due("12 slip " + i + " " + what, y.way(i, what), slips[i][what]);
        }
        checks.due("12 how many", y.way(-1, 4), 4);
        checks.due("12 no fifth", y.way(4, 0), -1);
        checks.due("12 no -2", y.way(-2, 0), -1);
        checks.due("12 no such, far off", y.way(Integer.MAX_VALUE, 0), -1);
        checks.due("12 what 5", y.way(0, 5), -2);
        checks.due("12 what -1", y.way(0, -1), -2);
        checks.due("12 ahead of any", new WordMender().way(-1, 1), 0);
        checks.due("12 none ahead of any", new WordMender().way(0, 1), -1);
        checks.due("12 what ahead of any", new WordMender().way(0, 5), -2);
        Checks.distance(y, "az=aqz");
        checks.same("12 put in", Checks.way(y), "030");
        checks.due("12 its place in meant", y.way(1, 2), 1);
        checks.due("12 its place in typed", y.way(1, 3), 1);
        Checks.distance(y, "aqz=az");
        checks.same("12 left out", Checks.way(y), "020");
        checks.due("12 the next place in meant", y.way(2, 2), 2);
        checks.due("12 the next place in typed", y.way(2, 3), 1);
    }

    private static void promise12Ties() {
        WordMender x = new WordMender();
        Checks.distance(x, "abc=bcd");
        checks.same("12 left out, put in are 200, too", Checks.way(x), "2003");
        Checks.distance(x, "ab=ba");
        checks.same("12 turned is cheaper", Checks.way(x), "4");
        x.price(4, -1, -1, 200);
        Checks.distance(x, "ab=ba");
        checks.same("12 two swaps ahead of turned", Checks.way(x), "11");
        Checks.distance(x, "aab=ab");
        checks.same("12 same ahead of left out ahead of halved", Checks.way(x), "020");
        x.price(2, -1, -1, 101);
        Checks.distance(x, "aab=ab");
        checks.same("12 halved", Checks.way(x), "60");
        Checks.distance(x, "ab=aab");
        checks.same("12 same and put in ahead of doubled", Checks.way(x), "030");
        x.price(3, -1, -1, 101);
        Checks.distance(x, "ab=aab");
        checks.same("12 doubled", Checks.way(x), "50");
        Checks.sound(x, "a=b", 100);
        Checks.sound(x, "a=b", 100);
        Checks.distance(x, "a=b");
        checks.same("12 swap ahead of a sound", Checks.way(x), "1");
        x.price(1, -1, -1, 101);
        Checks.distance(x, "a=b");
        checks.same("12 the earlier sound", Checks.way(x), "(0)");
        Checks.sound(x, "a=b", 99);
        Checks.distance(x, "a=b");
        checks.same("12 the cheaper sound", Checks.way(x), "(2)");
    }

    private static void promise12Then() {
        WordMender x = new WordMender();
        Checks.distance(x, "ab=cb");
        x.price(1, -1, -1, 44);
        checks.due("12 the price of then", x.way(0, 1), 100);
        Checks.pair(x, "abc=cba");
        x.learn();
        x.spread();
        checks.due("12 learning is no distance()", x.way(-1, 0), 2);
        checks.due("12 nor is its price", x.way(0, 1), 100);
        Checks.add(x, "abc", 1);
        Checks.near(x, "xyz", 500);
        Checks.mend(x, "xyz abd", 500);
        checks.due("12 nor is near()", x.way(-1, 0), 2);
        checks.due("12 nor its places", x.way(1, 3), 1);
    }
}
