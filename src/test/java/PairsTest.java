/** Promises 18 to 20: pair, learn and spread. */
public final class PairsTest {
    private static final Checks checks = new Checks();

    public static void main(String[] args) {
        promise18();
        promise19();
        promise19Rounds();
        promise19ToAndFro();
        promise19Nothing();
        promise20();
        checks.end();
    }

    private static void promise18() {
        WordMender x = new WordMender();
        for (String s : new String[] {"", "a", "a=", "=a", "a=b=c", "abcdefghijklm=a", "a=abcdefghijklm", "a =b", "A=b"}) {
            checks.due("18 no pair " + s, Checks.pair(x, s), -2);
            checks.due("18 emptied " + s, x.count(4), 0);
        }
        for (int k = 0; k < 40; k++) checks.due("18 pair " + k, Checks.pair(x, "abcdefghijkl=a"), k);
        checks.due("18 full", Checks.pair(x, "a=b"), -4);
        checks.due("18 full empties", x.count(4), 0);
        checks.due("18 bad ahead of full", Checks.pair(x, "a"), -2);
        checks.due("18 forty", x.count(3), 40);
        checks.due("18 all of them count", x.spread(), 40 * 1100);
    }

    private static void promise19() {
        WordMender x = new WordMender();
        Checks.pair(x, "abc=abd");
        Checks.pair(x, "abc=acb");
        Checks.pair(x, "abc=bac");
        checks.due("19 two rounds", x.learn(), 2);
        int[] prices = {0, 140, 200, 200, 80, 200, 200};
        for (int k = 1; k <= 6; k++) checks.due("19 price " + k, x.price(k, -1, -1, prices[k]), prices[k]);
        checks.due("19 splits stay", x.price(8, -1, -1, 60), 60);
        checks.due("19 again", x.learn(), 2);
        checks.due("19 all of one kind", one("abc=abd").price(1, -1, -1, 1), 20);
        checks.due("19 none of another", one("abc=abd").price(2, -1, -1, 1), 200);
        checks.due("19 cut", sevenths().price(1, -1, -1, 1), 200 - 180 * 3 / 7);
        String[] byKind = {"", "a=b", "ab=a", "a=ab", "ab=ba", "a=aa", "aa=a"};
        for (int k = 1; k <= 6; k++) {
            checks.due("19 kind " + k + " counts", by(k, byKind[k]).price(k, -1, -1, 1), 20);
            checks.due("19 the others are dear", by(k, byKind[k]).price(k % 6 + 1, -1, -1, 1), 200);
        }
        WordMender y = new WordMender();
        y.price(1, 2, 3, 5);
        y.price(2, 2, -1, 6);
        y.price(3, 2, -1, 7);
        Checks.sound(y, "x=ks", 3);
        Checks.pair(y, "abc=abd");
        Checks.pair(y, "bx=bks");
        y.learn();
        checks.due("19 prices by letters stay", y.price(1, 2, 3, 0), 5);
        checks.due("19 left out stays", y.price(2, 2, -1, 0), 6);
        checks.due("19 put in stays", y.price(3, 2, -1, 0), 7);
        checks.due("19 sounds stay", Checks.distance(y, "x=ks"), 3);
        checks.due("19 sounds do not count", y.price(1, -1, -1, 1), 20);
    }

    private static WordMender one(String pair) {
        WordMender x = new WordMender();
        Checks.pair(x, pair);
        x.learn();
        return x;
    }

    /** A KIND made cheap so that the one pair goes by it alone. */
    private static WordMender by(int kind, String pair) {
        WordMender x = new WordMender();
        x.price(kind, -1, -1, 50);
        Checks.pair(x, pair);
        x.learn();
        return x;
    }

    private static WordMender sevenths() {
        WordMender x = new WordMender();
        Checks.pair(x, "abc=xyz");
        Checks.pair(x, "abcdefgh=abcd");
        x.learn();
        return x;
    }

    private static void promise19Rounds() {
        WordMender x = new WordMender();
        // First by swaps; as nothing else gets cheaper, the second round finds the same.
        Checks.pair(x, "ab=cd");
        checks.due("19 the same at once", x.learn(), 2);
        WordMender y = new WordMender();
        // A turned pair costs 300: two swaps (200) are cheaper, and then cheaper still.
        y.price(4, -1, -1, 300);
        Checks.pair(y, "ab=ba");
        Checks.pair(y, "cd=dc");
        checks.due("19 swaps alone", y.learn(), 2);
        checks.due("19 at 20", y.price(1, -1, -1, 100), 20);
        checks.due("19 turned at 200", y.price(4, -1, -1, 100), 200);
        WordMender z = new WordMender();
        // Round 1 (turned costs 250) goes by two swaps for ab=ba; the left out letters make swaps dear
        // for round 2: 2 of 9 are swaps (160), so two of them (320) lose to turned (200).
        z.price(4, -1, -1, 250);
        Checks.pair(z, "ab=ba");
        Checks.pair(z, "xabcdefg=x");
        checks.due("19 another way in the second round", z.learn(), 3);
        checks.due("19 turned is 1 of 8", z.price(4, -1, -1, 100), 200 - 180 / 8);
        checks.due("19 left out 7 of 8", z.price(2, -1, -1, 100), 200 - 180 * 7 / 8);
        checks.due("19 no swaps", z.price(1, -1, -1, 100), 200);
    }

    /** What a ROUND uses gets cheap enough for the next one to leave the SOUND, and too dear again. */
    private static void promise19ToAndFro() {
        WordMender x = new WordMender();
        Checks.sound(x, "bbb=a", 260);
        Checks.pair(x, "bbbbcc=ac");
        // By the SOUND: b and c left out, 460; then left out 20, the others 200.
        // By a swap and four left out: 280, as the SOUND makes 300; then swap 164, left out 56.
        // By the SOUND again: 372, as the swap makes 388.
        checks.due("19 twenty rounds at most", x.learn(), 20);
        checks.due("19 swap after an even round", x.price(1, -1, -1, 100), 164);
        checks.due("19 left out after an even round", x.price(2, -1, -1, 100), 56);
        checks.due("19 the others", x.price(6, -1, -1, 100), 200);
    }

    private static void promise19Nothing() {
        WordMender x = new WordMender();
        checks.due("19 no pairs", x.learn(), 0);
        checks.due("19 no price changes", x.price(1, -1, -1, 100), 100);
        Checks.pair(x, "cat=cat");
        checks.due("19 nothing to count", x.learn(), 1);
        for (int k = 1; k <= 6; k++) checks.due("19 still " + k, x.price(k, -1, -1, 100), 100);
        Checks.sound(x, "a=e", 1);
        Checks.pair(x, "cat=cet");
        checks.due("19 sounds alone", x.learn(), 1);
        checks.due("19 still 100", x.price(1, -1, -1, 100), 100);
        x.feed(3, 0);
        x.learn();
        checks.due("19 the tape stays", x.count(4), 3);
        WordMender y = new WordMender();
        Checks.pair(y, "ab=ac");
        y.learn();
        Checks.pair(y, "ab=ad");
        checks.due("19 the round before is of this call", y.learn(), 2);
    }

    private static void promise20() {
        WordMender x = new WordMender();
        checks.due("20 no pairs", x.spread(), 0);
        Checks.pair(x, "cat=cut");
        checks.due("20 one", x.spread(), 100);
        Checks.pair(x, "cat=ct");
        Checks.pair(x, "cat=cat");
        checks.due("20 three", x.spread(), 200);
        x.price(1, -1, -1, 30);
        checks.due("20 by the prices of now", x.spread(), 130);
        x.price(1, 0, 20, 4);
        checks.due("20 by letters", x.spread(), 104);
        Checks.sound(x, "at=t", 3);
        checks.due("20 by sounds", x.spread(), 7);
        Checks.distance(x, "a=b");
        checks.due("20 again", x.spread(), 7);
        WordMender y = new WordMender();
        y.price(1, -1, -1, 9999);
        y.price(2, -1, -1, 9999);
        y.price(3, -1, -1, 9999);
        for (int k = 0; k < 40; k++) Checks.pair(y, "abcdefghijkl=mnopqrstuvwx");
        checks.due("20 the greatest", y.spread(), 40 * 12 * 9999);
    }
}
