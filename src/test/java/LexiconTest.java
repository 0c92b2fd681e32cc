/** Promises 1 to 7: a new object, THE TAPE and THE LEXICON. */
public final class LexiconTest {
    private static final Checks checks = new Checks();

    public static void main(String[] args) {
        promise1();
        promise2();
        promise3();
        promise3Full();
        promise4();
        promise5();
        promise6();
        promise7();
        checks.end();
    }

    private static void promise1() {
        WordMender x = new WordMender();
        for (int what = 0; what <= 7; what++) checks.due("1 count " + what, x.count(what), 0);
        checks.due("1 word", x.word(0, 0), -2);
        checks.due("1 way", x.way(-1, 0), 0);
        checks.due("1 found", x.found(0, 0), -1);
        checks.due("1 node", x.node(0, 0), -1);
        checks.due("1 sum of parts", x.part(-1, 1), 0);
        checks.due("1 part", x.part(0, 0), -1);
        checks.due("1 learn", x.learn(), 0);
        checks.due("1 spread", x.spread(), 0);
        checks.due("1 status", x.status(), 0);
        checks.due("1 weight", x.model(7), 0);
        for (int kind = 1; kind <= 6; kind++) checks.due("1 price " + kind, x.price(kind, -1, -1, 1), 100);
        checks.due("1 price of splits", x.price(8, -1, -1, 1), 60);
        checks.due("1 price of joins", x.price(9, -1, -1, 1), 60);
        checks.due("1 swap by letters", x.price(1, 0, 25, 5), 0);
        checks.due("1 left out by letter", x.price(2, 25, -1, 5), 0);
        checks.due("1 put in by letter", x.price(3, 25, -1, 5), 0);
        for (int tray = 0; tray < 8; tray++) checks.due("1 tray " + tray, x.forge(tray, 6, 0), 0);
        WordMender y = new WordMender();
        checks.due("1 objects share nothing", y.model(0), 0);
        checks.due("1 tape is empty", y.add(1), -2);
    }

    private static void promise2() {
        WordMender x = new WordMender();
        checks.due("2 n 0", x.feed(0, 97), -2);
        checks.due("2 n 9", x.feed(9, 97), -2);
        checks.due("2 n -1", x.feed(-1, 97), -2);
        checks.due("2 one byte", x.feed(1, 97), 1);
        checks.due("2 only the lowest", x.feed(2, 0x7a7a7a636261L), 3);
        checks.due("2 add", x.add(4), 4);
        checks.due("2 letters", Checks.find(x, "aab"), 0);
        checks.due("2 eight bytes", x.feed(8, Checks.bytes("abcdefgh")), 8);
        checks.due("2 a refusal leaves it", x.feed(0, 0), -2);
        checks.due("2 behind it", x.feed(4, Checks.bytes("ijkl")), 12);
        checks.due("2 add twelve", x.add(1), 1);
        checks.due("2 the order of bytes", x.word(1, 2 + 11), 11);
        for (int k = 1; k <= 30; k++) checks.due("2 feed " + k, x.feed(8, 0), 8 * k);
        checks.due("2 full", x.feed(1, 0), -4);
        checks.due("2 full changes nothing", x.count(4), 240);
        checks.due("2 reading empties it", x.find(), -2);
        checks.due("2 empty", x.count(4), 0);
        for (int k = 1; k <= 29; k++) x.feed(8, 0);
        x.feed(7, 0);
        checks.due("2 239", x.count(4), 239);
        checks.due("2 two more are too many", x.feed(2, 0), -4);
        checks.due("2 one more is not", x.feed(1, 0), 240);
        checks.due("2 bad ahead of full", x.feed(9, 0), -2);
        checks.due("2 the highest byte", new WordMender().feed(8, -1L), 8);
    }

    private static void promise3() {
        WordMender x = new WordMender();
        checks.due("3 new", Checks.add(x, "cat", 5), 5);
        checks.due("3 more", Checks.add(x, "cat", 6), 11);
        checks.due("3 at most", Checks.add(x, "cat", 99999), 100000);
        checks.due("3 stays", Checks.add(x, "cat", 1), 100000);
        checks.due("3 most", Checks.add(x, "dog", 100000), 100000);
        checks.due("3 count 0", Checks.add(x, "cow", 0), -2);
        checks.due("3 tape is emptied", x.count(4), 0);
        checks.due("3 count -1", Checks.add(x, "cow", -1), -2);
        checks.due("3 count too great", Checks.add(x, "cow", 100001), -2);
        checks.due("3 empty tape", x.add(1), -2);
        checks.due("3 thirteen", Checks.add(x, "abcdefghijklm", 1), -2);
        checks.due("3 twelve", Checks.add(x, "abcdefghijkl", 1), 1);
        checks.due("3 one", Checks.add(x, "z", 1), 1);
        for (String s : new String[] {"A", "a ", "a=b", " a", "a`", "a{", "caf\u00e9", "\0", "a1"}) {
            checks.due("3 no letters " + s, Checks.add(x, s, 1), -2);
            checks.due("3 emptied after " + s, x.count(4), 0);
        }
        checks.due("3 words", x.count(0), 4);
    }

    private static void promise3Full() {
        WordMender x = new WordMender();
        for (int k = 0; k < 200; k++) {
            checks.due("3 word " + k, Checks.add(x, "" + (char) ('a' + k / 26) + (char) ('a' + k % 26), k + 1), k + 1);
        }
        checks.due("3 full", Checks.add(x, "zz", 1), -4);
        checks.due("3 full empties the tape", x.count(4), 0);
        checks.due("3 full changes nothing", x.count(0), 200);
        checks.due("3 known ones grow", Checks.add(x, "aa", 5), 6);
        checks.due("3 bad ahead of full", Checks.add(x, "zz", 0), -2);
        checks.due("3 last", x.word(199, 0), 200);
        checks.due("4 one goes", Checks.drop(x, "bc"), 29);
        checks.due("3 one comes", Checks.add(x, "a", 7), 7);
        checks.due("3 first", x.word(0, 0), 7);
        checks.due("3 last is the same", x.word(199, 0), 200);
        checks.due("3 full again", Checks.add(x, "zz", 1), -4);
    }

    private static void promise4() {
        WordMender x = Checks.with("ab", "abc", "b");
        Checks.add(x, "abc", 8);
        checks.due("4 had", Checks.drop(x, "abc"), 9);
        checks.due("4 words", x.count(0), 2);
        checks.due("4 none any more", Checks.drop(x, "abc"), 0);
        checks.due("4 not known", Checks.find(x, "abc"), -1);
        checks.due("4 the next one moves up", Checks.find(x, "b"), 1);
        checks.due("4 never was", Checks.drop(x, "q"), 0);
        checks.due("4 bad", Checks.drop(x, "Q"), -2);
        checks.due("4 emptied", x.count(4), 0);
        checks.due("4 empty", x.drop(), -2);
        checks.due("4 too long", Checks.drop(x, "abcdefghijklm"), -2);
        checks.due("4 comes anew", Checks.add(x, "abc", 2), 2);
        Checks.drop(x, "ab");
        Checks.drop(x, "abc");
        checks.due("4 the last one", Checks.drop(x, "b"), 1);
        checks.due("4 no words", x.count(0), 0);
    }

    private static void promise5() {
        WordMender x = Checks.with("b", "abc", "ab", "a", "abd", "aab");
        String[] sorted = {"a", "aab", "ab", "abc", "abd", "b"};
        for (int w = 0; w < sorted.length; w++) checks.due("5 " + sorted[w], Checks.find(x, sorted[w]), w);
        checks.due("5 none", Checks.find(x, "aa"), -1);
        checks.due("5 none behind", Checks.find(x, "c"), -1);
        checks.due("5 emptied", x.count(4), 0);
        checks.due("5 empty", x.find(), -2);
        checks.due("5 bad", Checks.find(x, "a b"), -2);
        checks.due("5 bad empties", x.count(4), 0);
        checks.due("5 too long", Checks.find(x, "abcdefghijklm"), -2);
    }

    private static void promise6() {
        WordMender x = Checks.with("az", "abcdefghijkl");
        checks.due("6 count", x.word(0, 0), 1);
        checks.due("6 letters", x.word(0, 1), 12);
        for (int i = 0; i < 12; i++) checks.due("6 letter " + i, x.word(0, 2 + i), i);
        checks.due("6 no such letter", x.word(0, 14), -1);
        checks.due("6 z", x.word(1, 3), 25);
        checks.due("6 two letters", x.word(1, 1), 2);
        checks.due("6 no third", x.word(1, 4), -1);
        checks.due("6 far off", x.word(1, Integer.MAX_VALUE), -1);
        checks.due("6 what -1", x.word(1, -1), -2);
        checks.due("6 what least", x.word(1, Integer.MIN_VALUE), -2);
        checks.due("6 word 2", x.word(2, 0), -2);
        checks.due("6 word -1", x.word(-1, 0), -2);
        checks.due("6 no word, no letter", x.word(2, 99), -2);
        Checks.drop(x, "abcdefghijkl");
        checks.due("6 numbers of now", x.word(0, 1), 2);
        checks.due("6 it is gone", x.word(1, 1), -2);
    }

    private static void promise7() {
        WordMender x = Checks.with("car", "cart", "cat", "dog");
        checks.due("7 words", x.count(0), 4);
        checks.due("7 nodes", x.count(1), 9);
        Checks.add(x, "c", 1);
        checks.due("7 a beginning is no new node", x.count(1), 9);
        Checks.drop(x, "cart");
        checks.due("7 nodes go", x.count(1), 8);
        Checks.sound(x, "f=ph", 5);
        Checks.sound(x, "f=ph", 5);
        checks.due("7 sounds", x.count(2), 2);
        Checks.pair(x, "f=ph");
        checks.due("7 pairs", x.count(3), 1);
        x.feed(5, 0);
        checks.due("7 bytes", x.count(4), 5);
        x.find();
        Checks.near(x, "cat", 0);
        checks.due("7 met", x.count(5), 8);
        checks.due("7 left", x.count(6), 1);
        checks.due("7 found", x.count(7), 1);
        Checks.nearest(x, "cat", 3);
        checks.due("7 met as before", x.count(5), 8);
        checks.due("7 left as before", x.count(6), 1);
        checks.due("7 found by nearest", x.count(7), 3);
        checks.due("7 refused", x.near(5), -2);
        checks.due("7 a refusal changes nothing", x.count(7), 3);
        checks.due("7 what 8", x.count(8), -2);
        checks.due("7 what -1", x.count(-1), -2);
        checks.due("7 no words, no nodes", new WordMender().count(1), 0);
        checks.due("7 one word", Checks.with("abc").count(1), 4);
    }
}
