/** Promises 13 to 17: near, nearest, complete, found and node. */
public final class WalkTest {
    private static final Checks checks = new Checks();

    public static void main(String[] args) {
        promise13();
        promise13Rank();
        promise13Edges();
        promise14();
        promise15();
        promise15Below();
        promise16();
        promise17();
        promise17Left();
        promise17Then();
        checks.end();
    }

    private static void promise13() {
        WordMender x = Checks.with("cat", "cart", "act", "dog");
        checks.due("13 near 0", Checks.near(x, "cat", 0), 1);
        checks.same("13 it is cat", Checks.found(x), "2:0");
        checks.due("13 near 99", Checks.near(x, "cat", 99), 1);
        checks.due("13 near 100", Checks.near(x, "cat", 100), 3);
        checks.same("13 by distance, then by letters", Checks.found(x), "2:0 0:100 1:100");
        checks.due("13 near all", Checks.near(x, "cat", 300), 4);
        checks.due("13 nothing", Checks.near(x, "zzz", 100), 0);
        checks.due("13 nothing is found then", x.found(0, 0), -1);
        checks.due("13 the tape is emptied", x.count(4), 0);
        Checks.near(x, "cat", 100);
        checks.due("13 bound -1", Checks.near(x, "cat", -1), -2);
        checks.due("13 emptied", x.count(4), 0);
        checks.due("13 bound too great", Checks.near(x, "cat", 100000), -2);
        checks.due("13 emptied", x.count(4), 0);
        checks.due("13 no row", Checks.near(x, "cat=", 100), -2);
        checks.due("13 empty", x.near(100), -2);
        checks.due("13 too long", Checks.near(x, "abcdefghijklm", 100), -2);
        checks.due("13 refusals change nothing", x.count(7), 3);
        checks.due("13 nor what was met", x.count(5), 12);
        checks.due("13 the greatest bound", Checks.near(x, "abcdefghijkl", 99999), 4);
    }

    private static void promise13Rank() {
        WordMender x = new WordMender();
        Checks.add(x, "cut", 5);
        Checks.add(x, "cot", 9);
        Checks.add(x, "bat", 5);
        Checks.add(x, "cat", 1);
        Checks.near(x, "cat", 100);
        checks.same("13 greater counts ahead", Checks.found(x), "1:0 2:100 0:100 3:100");
        x.model(20000);
        Checks.near(x, "cat", 100);
        checks.same("13 shares", Checks.found(x), "2:100 1:0 0:100 3:100");
        checks.due("13 the bound is for the distance alone", Checks.near(x, "cat", 99), 1);
        x.model(25000);
        Checks.add(x, "cat", 1);
        Checks.near(x, "cat", 100);
        checks.same("13 less the share", Checks.found(x), "2:100 1:0 0:100 3:100");
        // cat 0 - 25 * 2 = -50; cut and bat 100 - 25 * 6 = -50: equal, by greater counts.
        Checks.add(x, "cut", 1);
        Checks.add(x, "bat", 1);
        Checks.near(x, "cat", 100);
        checks.same("13 equal ranks by counts", Checks.found(x), "2:100 0:100 3:100 1:0");
    }

    private static void promise13Edges() {
        WordMender x = new WordMender();
        checks.due("13 no words", Checks.near(x, "cat", 99999), 0);
        checks.due("13 nothing is met", x.count(5), 0);
        checks.due("13 nothing is left", x.count(6), 0);
        // A SOUND jumps over two NODES that are far: the WORD below them is FOUND all the same.
        WordMender y = Checks.with("abcd", "abce", "xyz");
        Checks.sound(y, "abc=q", 5);
        checks.due("13 below far nodes", Checks.near(y, "qd", 5), 1);
        checks.same("13 it is abcd", Checks.found(y), "0:5");
        checks.due("13 met", y.count(5), 9);
        checks.due("13 left", y.count(6), 1);
        checks.due("13 the 12th letter", Checks.near(Checks.with("abcdefghijkl"), "abcdefghijkl", 0), 1);
    }

    private static void promise14() {
        WordMender x = Checks.with("cat", "cart", "act", "dog");
        checks.due("14 one", Checks.nearest(x, "dig", 1), 1);
        checks.same("14 it is dog", Checks.found(x), "3:100");
        checks.due("14 two", Checks.nearest(x, "cats", 2), 2);
        checks.same("14 by letters", Checks.found(x), "2:100 0:200");
        checks.due("14 all", Checks.nearest(x, "cats", 200), 4);
        checks.same("14 all of them", Checks.found(x), "2:100 0:200 1:200 3:400");
        checks.due("14 as many as there are", Checks.nearest(x, "cats", 5), 4);
        checks.due("14 n 0", Checks.nearest(x, "cats", 0), -2);
        checks.due("14 emptied", x.count(4), 0);
        checks.due("14 n -1", Checks.nearest(x, "cats", -1), -2);
        checks.due("14 n 201", Checks.nearest(x, "cats", 201), -2);
        checks.due("14 empty", x.nearest(1), -2);
        checks.due("14 no row", Checks.nearest(x, "CATS", 1), -2);
        checks.due("14 refusals change nothing", x.count(7), 4);
        checks.due("14 no words", Checks.nearest(new WordMender(), "a", 200), 0);
        x.model(100000);
        Checks.add(x, "dog", 3);
        checks.due("14 the first by rank", Checks.nearest(x, "cats", 1), 1);
        checks.same("14 dog's share is greater", Checks.found(x), "3:400");
        x.price(1, -1, -1, 9999);
        x.price(2, -1, -1, 9999);
        x.price(3, -1, -1, 9999);
        Checks.nearest(x, "qqqqqqqqqqqq", 1);
        checks.due("14 beyond every bound", x.found(0, 1), 3 * 9999 + 9 * 9999);
    }

    private static void promise15() {
        WordMender x = Checks.with("pod", "post", "pot", "top");
        checks.due("15 po", Checks.complete(x, "po", 0), 3);
        checks.same("15 what begins with po", Checks.found(x), "0:0 1:0 2:0");
        checks.due("15 whole words, too", Checks.complete(x, "pot", 0), 1);
        checks.due("15 bound 100", Checks.complete(x, "pot", 100), 3);
        checks.same("15 the least of all beginnings", Checks.found(x), "2:0 0:100 1:100");
        checks.due("15 the empty one, too", Checks.complete(x, "z", 100), 4);
        checks.same("15 each by the empty one", Checks.found(x), "0:100 1:100 2:100 3:100");
        x.price(3, -1, -1, 50);
        Checks.complete(x, "z", 100);
        checks.same("15 by the empty one alone", Checks.found(x), "0:50 1:50 2:50 3:50");
        x.price(3, -1, -1, 100);
        checks.due("15 nothing", Checks.complete(x, "zz", 199), 0);
        checks.due("15 two put in", Checks.complete(x, "zz", 200), 4);
        checks.due("15 bound -1", Checks.complete(x, "po", -1), -2);
        checks.due("15 emptied", x.count(4), 0);
        checks.due("15 bound too great", Checks.complete(x, "po", 100000), -2);
        checks.due("15 the greatest bound", Checks.complete(x, "po", 99999), 4);
        checks.due("15 empty", x.complete(0), -2);
        checks.due("15 no row", Checks.complete(x, "p o", 0), -2);
        checks.due("15 refusals change nothing", x.count(7), 4);
        checks.due("15 no words", Checks.complete(new WordMender(), "a", 99999), 0);
    }

    private static void promise15Below() {
        WordMender x = Checks.with("abcdefgh", "abcdefgi", "b");
        checks.due("15 below what is left", Checks.complete(x, "a", 0), 2);
        checks.same("15 by their beginning", Checks.found(x), "0:0 1:0");
        checks.due("15 met to abcd, and b", x.count(5), 6);
        checks.due("15 abcd is left", x.count(6), 1);
        checks.due("15 its depth", x.node(4, 0), 4);
        checks.due("15 left", x.node(4, 3), 1);
        Checks.near(x, "a", 0);
        checks.due("15 near() meets as many", x.count(5), 6);
        checks.due("15 and leaves as many", x.count(6), 1);
        checks.due("15 and finds none", x.count(7), 0);
        x.model(1000);
        Checks.add(x, "abcdefgi", 4);
        Checks.complete(x, "ac", 100);
        checks.same("15 in rank's order", Checks.found(x), "1:100 0:100");
    }

    private static void promise16() {
        WordMender x = Checks.with("cat", "dog");
        x.model(2500);
        checks.due("16 ahead of any", x.found(0, 0), -1);
        Checks.add(x, "dog", 6);
        Checks.near(x, "dig", 300);
        int[][] due = {{1, 100, 17}, {0, 300, 2}};
        for (int i = 0; i < 2; i++) {
            for (int what = 0; what < 3; what++) checks.due("16 " + i + " " + what, x.found(i, what), due[i][what]);
        }
        checks.due("16 no third", x.found(2, 0), -1);
        checks.due("16 no -1", x.found(-1, 0), -1);
        checks.due("16 far off", x.found(Integer.MAX_VALUE, 2), -1);
        checks.due("16 what 3", x.found(0, 3), -2);
        checks.due("16 what -1", x.found(0, -1), -2);
        Checks.add(x, "aa", 1);
        Checks.add(x, "dog", 50);
        x.model(0);
        x.price(1, -1, -1, 5);
        checks.due("16 its number as it was then", x.found(0, 0), 1);
        checks.due("16 its distance as it was", x.found(0, 1), 100);
        checks.due("16 its share as it was", x.found(0, 2), 17);
        Checks.mend(x, "dag", 100);
        checks.due("16 mend() is no near()", x.count(7), 2);
        checks.due("16 nothing of it changed", x.found(1, 1), 300);
        Checks.nearest(x, "aa", 1);
        checks.due("16 of nearest()", x.found(0, 0), 0);
        Checks.complete(x, "ca", 0);
        checks.due("16 of complete()", x.found(0, 0), 1);
    }

    private static void promise17() {
        WordMender x = Checks.with("ab", "abc", "b");
        checks.due("17 ahead of any", x.node(0, 0), -1);
        checks.due("17 what ahead of any", x.node(0, -1), -2);
        Checks.near(x, "ac", 100);
        int[][] due = {{0, -1, 0, 0, 0, 0, 100, 200, -1}, {1, 0, 0, 0, 0, 100, 0, 100, -1},
            {2, 1, 100, 0, 1, 200, 100, 100, -1}, {3, 2, 100, 0, 1, 300, 200, 100, -1}, {1, 1, 100, 0, 1, 100, 100, 200, -1}};
        checks.due("17 so many", x.count(5), due.length);
        for (int i = 0; i < due.length; i++) {
            for (int what = 0; what < 9; what++) checks.due("17 " + i + " " + what, x.node(i, what), due[i][what]);
        }
        checks.due("17 no sixth", x.node(5, 0), -1);
        checks.due("17 no -1", x.node(-1, 0), -1);
        checks.due("17 no far place", x.node(0, Integer.MAX_VALUE), -1);
        checks.due("17 what -1", x.node(0, -1), -2);
        checks.due("17 what least", x.node(0, Integer.MIN_VALUE), -2);
        Checks.near(x, "abcdefghijkl", 0);
        checks.due("17 the last place", x.node(0, 17), 1200);
        checks.due("17 none behind it", x.node(0, 18), -1);
    }

    private static void promise17Left() {
        WordMender x = Checks.with("abcd", "xyzw", "xyzz");
        Checks.near(x, "abcd", 0);
        // ROOT a ab abc abcd x xy xyz: xyz is left, as x and xy are 100 off at least; below it none is met.
        checks.due("17 met", x.count(5), 8);
        int[] left = {0, 0, 0, 0, 0, 0, 0, 1};
        for (int i = 0; i < left.length; i++) checks.due("17 left " + i, x.node(i, 3), left[i]);
        checks.due("17 as many as count() tells", x.count(6), 1);
        Checks.near(x, "abcd", 100);
        // The STATE of x has 100 in it: it keeps xyz.
        checks.due("17 met by 100", x.count(5), 10);
        checks.due("17 left by 100", x.count(6), 2);
        Checks.near(x, "abcd", 400);
        checks.due("17 none is left", x.count(6), 0);
        checks.due("17 all are met", x.count(5), x.count(1));
    }

    private static void promise17Then() {
        WordMender x = Checks.with("ab");
        Checks.near(x, "ab", 0);
        Checks.drop(x, "ab");
        x.price(1, -1, -1, 7);
        Checks.nearest(x, "q", 5);
        Checks.mend(x, "ac", 500);
        checks.due("17 still there", x.count(5), 3);
        checks.due("17 a word then", x.node(2, 4), 1);
        checks.due("17 its state", x.node(2, 7), 0);
        checks.due("17 the state of then", x.node(1, 6), 0);
        Checks.near(x, "ab", 0);
        checks.due("17 no nodes any more", x.count(5), 0);
        checks.due("17 none", x.node(0, 0), -1);
    }
}
