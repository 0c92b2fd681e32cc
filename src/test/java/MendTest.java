/** Promises 21 and 22: mend and part. */
public final class MendTest {
    private static final Checks checks = new Checks();

    public static void main(String[] args) {
        promise21Kinds();
        promise21Sums();
        promise21Ties();
        promise21Forms();
        promise21Mended();
        promise22();
        promise22Then();
        checks.end();
    }

    private static WordMender birds() {
        WordMender x = Checks.with("key", "board", "keyboard", "the", "a", "an", "nan");
        return x;
    }

    private static void promise21Kinds() {
        WordMender x = birds();
        checks.due("21 kept", Checks.mend(x, "the key", 50), 2);
        checks.same("21 kept", Checks.parts(x), "00");
        checks.due("21 split", Checks.mend(x, "keyb oard", 50), 1);
        checks.same("21 split", Checks.parts(x), "2");
        Checks.mend(x, "thekey", 60);
        checks.same("21 joined", Checks.parts(x), "3");
        Checks.mend(x, "thw", 100);
        checks.same("21 mended", Checks.parts(x), "1");
        Checks.mend(x, "thw", 99);
        checks.same("21 unknown", Checks.parts(x), "4");
        checks.due("21 the bound and 1", x.part(-1, 1), 100);
        Checks.mend(x, "key board", 50);
        checks.same("21 two words are no split", Checks.parts(x), "00");
        checks.due("21 no words at all", Checks.mend(new WordMender(), "a b", 0), 2);
    }

    private static void promise21Sums() {
        WordMender x = birds();
        Checks.mend(x, "key bord", 30);
        checks.same("21 unknown is cheaper", Checks.parts(x), "04");
        Checks.mend(x, "key bord", 100);
        checks.same("21 mended is cheaper", Checks.parts(x), "01");
        Checks.add(x, "keybord", 1);
        Checks.mend(x, "key bord", 100);
        checks.same("21 split is cheaper", Checks.parts(x), "2");
        checks.due("21 its price", x.part(-1, 1), 60);
        x.price(8, -1, -1, 9999);
        Checks.mend(x, "key bord", 100);
        checks.same("21 splits are dear", Checks.parts(x), "01");
        x.price(8, -1, -1, 3);
        x.price(9, -1, -1, 2);
        Checks.mend(x, "keyb oard thekey", 100);
        checks.same("21 cheap ones", Checks.parts(x), "23");
        checks.due("21 their sum", x.part(-1, 1), 5);
        x.price(9, -1, -1, 9999);
        Checks.mend(x, "thekey", 300);
        checks.same("21 joins are dear", Checks.parts(x), "1");
        WordMender y = Checks.with("ab", "bc");
        // a b c: a and b together, or b and c: the least sum leaves one row unknown.
        Checks.mend(y, "a b c", 70);
        checks.same("21 split, then unknown", Checks.parts(y), "24");
        Checks.mend(y, "b c a", 70);
        checks.same("21 split first", Checks.parts(y), "24");
        WordMender z = Checks.with("ab", "cd");
        Checks.mend(z, "x a b c d", 70);
        checks.same("21 the rows behind count", Checks.parts(z), "422");
    }

    private static void promise21Ties() {
        WordMender x = Checks.with("ab", "bc");
        x.price(8, -1, -1, 50);
        x.price(2, -1, -1, 25);
        // Mended to ab by a letter left out: 25 each; split: 50.
        Checks.mend(x, "a b", 60);
        checks.same("21 mended twice ahead of split", Checks.parts(x), "11");
        x.price(2, -1, -1, 26);
        Checks.mend(x, "a b", 60);
        checks.same("21 split", Checks.parts(x), "2");
        WordMender y = Checks.with("ab", "cd", "abcd", "abxcd");
        y.price(9, -1, -1, 100);
        // abcx: mended to abcd by a swap: 100. abcdab is joined by none.
        Checks.mend(y, "abcda", 100);
        checks.same("21 mended", Checks.parts(y), "1");
        Checks.drop(y, "abcd");
        y.price(3, -1, -1, 100);
        Checks.mend(y, "abcd", 100);
        checks.same("21 mended ahead of joined", Checks.parts(y), "1");
        y.price(9, -1, -1, 99);
        Checks.mend(y, "abcd", 100);
        checks.same("21 joined", Checks.parts(y), "3");
        y.price(9, -1, -1, 51);
        Checks.mend(y, "abcd", 50);
        checks.same("21 joined ahead of unknown", Checks.parts(y), "3");
        y.price(8, -1, -1, 102);
        Checks.mend(y, "a b", 50);
        checks.same("21 split ahead of two unknown", Checks.parts(y), "2");
        y.price(8, -1, -1, 103);
        Checks.mend(y, "a b", 50);
        checks.same("21 two unknown", Checks.parts(y), "44");
    }

    private static void promise21Forms() {
        WordMender x = birds();
        Checks.mend(x, "the", 5);
        for (String s : new String[] {"", " ", " the", "the ", "the  key", "The", "the=key", "abcdefghijklm", "the abcdefghijklm",
            "the\tkey", "the\0", "a a a a a a a a a a a a a", "a a a a a a a a a a a a "}) {
            checks.due("21 no text " + s, Checks.mend(x, s, 50), -2);
            checks.due("21 emptied " + s, x.count(4), 0);
        }
        checks.due("21 bound -1", Checks.mend(x, "a", -1), -2);
        checks.due("21 emptied", x.count(4), 0);
        checks.due("21 bound 100000", Checks.mend(x, "a", 100000), -2);
        checks.due("21 emptied", x.count(4), 0);
        checks.due("22 refusals change nothing", x.part(0, 2), 6);
        checks.due("22 nor how many", x.part(1, 0), -1);
        checks.due("21 twelve rows", Checks.mend(x, "a a a a a a a a a a a a", 0), 12);
        String row = "qqqqqqqqqqqq";
        StringBuilder text = new StringBuilder(row);
        for (int k = 1; k < 12; k++) text.append(' ').append(row);
        checks.due("21 the longest text", Checks.mend(new WordMender(), text.toString(), 99999), 12);
        WordMender y = Checks.with("b");
        Checks.mend(y, text.toString(), 99999);
        checks.due("21 the greatest bound", y.part(-1, 1), 12 * 1200);
        WordMender z = new WordMender();
        Checks.mend(z, text.toString(), 99999);
        checks.due("21 the greatest sum", z.part(-1, 1), 1200000);
    }

    private static void promise21Mended() {
        WordMender x = new WordMender();
        Checks.add(x, "cat", 1);
        Checks.add(x, "cut", 5);
        Checks.mend(x, "cxt", 100);
        checks.due("21 the greater count", x.part(0, 2), 1);
        Checks.mend(x, "catx", 200);
        checks.due("21 the nearest", x.part(0, 2), 0);
        x.model(50000);
        Checks.mend(x, "catx", 200);
        checks.due("21 by rank", x.part(0, 2), 1);
        checks.due("21 its distance is its price", x.part(0, 1), 200);
        Checks.mend(x, "catx", 199);
        checks.due("21 by the bound", x.part(0, 2), 0);
        WordMender y = Checks.with("pa", "papa");
        Checks.drop(y, "papa");
        Checks.mend(y, "papa", 60);
        checks.same("21 one word twice", Checks.parts(y), "3");
        checks.due("21 the same one", y.part(0, 2), y.part(0, 3));
        WordMender z = Checks.with("abcdef", "ghijkl", "abcdefghijkl");
        Checks.mend(z, "abcdefg hijkl", 60);
        checks.same("21 twelve letters together", Checks.parts(z), "2");
        Checks.mend(z, "abcdefg hijklm", 60);
        checks.same("21 thirteen are too many", Checks.parts(z), "44");
        Checks.mend(z, "ghijklabcdef", 0);
        checks.due("21 joined by bound 0 is dear", z.part(0, 0), 4);
        Checks.mend(z, "ghijklabcdef", 60);
        checks.same("21 joined", Checks.parts(z), "3");
    }

    private static void promise22() {
        WordMender x = birds();
        Checks.mend(x, "the keyb oard anan zz thr", 100);
        // a an board key keyboard nan the; anan: a and nan ahead of an and an.
        int[][] due = {{0, 0, 6, -1, 1}, {2, 60, 4, -1, 2}, {3, 60, 0, 5, 1}, {4, 101, -1, -1, 1}, {1, 100, 6, -1, 1}};
        for (int i = 0; i < due.length; i++) {
            for (int what = 0; what < 5; what++) checks.due("22 " + i + " " + what, x.part(i, what), due[i][what]);
        }
        checks.due("22 the sum", x.part(-1, 1), 321);
        checks.due("22 no sixth", x.part(5, 0), -1);
        checks.due("22 no -2", x.part(-2, 1), -1);
        checks.due("22 no far one", x.part(Integer.MAX_VALUE, 1), -1);
        checks.due("22 -1 has a sum alone", x.part(-1, 0), -1);
        checks.due("22 what 5", x.part(0, 5), -2);
        checks.due("22 what -1", x.part(0, -1), -2);
        checks.due("22 what 5 of the sum", x.part(-1, 5), -2);
        checks.due("22 ahead of any", new WordMender().part(-1, 1), 0);
        checks.due("22 none ahead of any", new WordMender().part(0, 1), -1);
        checks.due("22 what ahead of any", new WordMender().part(0, 7), -2);
    }

    private static void promise22Then() {
        WordMender x = Checks.with("b", "bc");
        Checks.mend(x, "b bcd", 100);
        Checks.add(x, "a", 1);
        Checks.drop(x, "bc");
        x.price(1, -1, -1, 3);
        Checks.near(x, "q", 900);
        checks.due("22 the number then", x.part(1, 2), 1);
        checks.due("22 the price then", x.part(1, 1), 100);
        checks.due("22 the sum then", x.part(-1, 1), 100);
        Checks.mend(x, "a", 100);
        checks.due("22 of the latest one", x.part(1, 0), -1);
        checks.due("22 its sum", x.part(-1, 1), 0);
    }
}
