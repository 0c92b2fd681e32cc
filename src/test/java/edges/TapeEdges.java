/** Edges of the face, of THE TAPE and of a new object: promises 1 and 2, and what all readings share. */
final class TapeEdges {
    private static final String TWELVE = "abcdefghijkl", THIRTEEN = "abcdefghijklm";
    private final Checks checks;

    TapeEdges(Checks checks) {
        this.checks = checks;
    }

    void all() {
        theLastCall();
        nothingAtFirst();
        statusAtFirst();
        lettersAreAToZ();
        rowsHaveOneToTwelve();
        theTapeHas240();
        readingEmptiesIt();
        whatDoesNotReadLeavesIt();
        otherFormsAreBad();
        bytesAmongTwoRowsAreBad();
        bytesInATextAreBad();
        refusalsChangeNothing();
        fullChangesNothing();
        theConstants();
        feedTakesTheLowest();
        feedIsBad();
        feedIsFull();
    }

    private void theLastCall() {
        checks.sentence("What it is", "An object is used for at most 512 calls after it has been made");
        WordMender x = new WordMender();
        Checks.feed(x, "ab");
        x.add(5);
        for (int call = 3; call <= 510; call++) checks.due("call " + call, x.word(0, 0), 5);
        checks.due("call 511", x.feed(2, Checks.bytes("ab")), 2);
        checks.due("call 512", x.find(), 0);
    }

    private void nothingAtFirst() {
        checks.sentence("Promise 1", "No WORDS, SOUNDS, PAIRS; an empty TAPE.");
        WordMender used = Furnished.make();
        used.feed(3, Checks.bytes("abc"));
        WordMender x = new WordMender();
        for (int what = 0; what < 8; what++) checks.due("count " + what, x.count(what), 0);
        checks.due("no word 0", x.word(0, 0), WordMender.BAD);
        checks.due("no pairs to learn", x.learn(), 0);
        checks.due("no pairs to add up", x.spread(), 0);
        for (Reader r : Reader.ALL) checks.due(r.name() + " of the empty tape", r.read(new WordMender(), ""), WordMender.BAD);
        checks.due("the first byte", x.feed(1, 'a'), 1);
        checks.due("no such word", x.find(), WordMender.NONE);
        checks.due("the first sound", Checks.sound(x, "a=b", 1), 0);
        checks.due("the first pair", Checks.pair(x, "a=b"), 0);
        Checks.add(x, "z", 1);
        checks.due("the first word", Checks.find(x, "z"), 0);
        checks.due("the other one has its tape", used.count(4), 3);
    }

    private void statusAtFirst() {
        checks.sentence("==== 5", "STATUS is of the latest put(), forge(): 0 done");
        checks.due("ahead of any", new WordMender().status(), 0);
    }

    private void lettersAreAToZ() {
        checks.sentence("Terms", "LETTERS are a .. z.");
        for (int b = 0; b < 256; b++) {
            int due = b >= 97 && b <= 122 ? WordMender.NONE : WordMender.BAD;
            for (String around : new String[] {"", "a", "abcdefghijk"}) {
                WordMender x = new WordMender();
                Checks.feed(x, around);
                x.feed(1, b);
                checks.due("byte " + b + " behind " + around, x.find(), due);
                x.feed(1, b);
                Checks.feed(x, around);
                checks.due("byte " + b + " ahead of " + around, x.find(), due);
            }
        }
    }

    private void rowsHaveOneToTwelve() {
        checks.sentence("Terms", "A ROW of LETTERS has 1 to 12 of them.");
        StringBuilder row = new StringBuilder();
        for (int n = 0; n <= 40; n++) {
            boolean isRow = n >= 1 && n <= 12;
            for (Reader r : Reader.ALL) {
                if (r.form() == Reader.Form.ROW || r.form() == Reader.Form.TEXT) {
                    checks.due(r.name() + " takes " + n, r.takes(row.toString()) ? 1 : 0, isRow ? 1 : 0);
                }
                if (r.form() == Reader.Form.TEXT) {
                    checks.due(r.name() + " takes " + n + " behind", r.takes("a " + row) ? 1 : 0, isRow ? 1 : 0);
                    checks.due(r.name() + " takes " + n + " ahead", r.takes(row + " a") ? 1 : 0, isRow ? 1 : 0);
                }
                if (r.form() == Reader.Form.PAIR) {
                    checks.due(r.name() + " takes MEANT of " + n, r.takes(row + "=a") ? 1 : 0, isRow ? 1 : 0);
                    checks.due(r.name() + " takes TYPED of " + n, r.takes("a=" + row) ? 1 : 0, isRow ? 1 : 0);
                    checks.due(r.name() + " takes both of " + n, r.takes(row + "=" + row) ? 1 : 0, isRow ? 1 : 0);
                }
            }
            row.append((char) ('a' + n % 26));
        }
    }

    private void theTapeHas240() {
        checks.sentence("Terms", "THE TAPE has at most 240 bytes");
        WordMender x = new WordMender();
        for (int k = 1; k <= 240; k++) checks.due("byte " + k, x.feed(1, 'a'), k);
        checks.due("byte 241", x.feed(1, 'a'), WordMender.FULL);
        checks.due("it has 240", x.count(4), 240);
        checks.due("so many are no row", x.find(), WordMender.BAD);
        checks.due("there is room again", x.feed(8, 0), 8);
    }

    private void readingEmptiesIt() {
        checks.sentence("Terms", "what reads it empties it, whatever it answers");
        String[] tapes = {"a", TWELVE, THIRTEEN, "a=b", "a=a=a", "a b", "A", "=", " ", "abcdefghijklm=nopqrstuvwxyz abcdefghijkl"};
        for (Reader r : Reader.ALL) {
            for (String tape : tapes) {
                WordMender x = new WordMender();
                r.read(x, tape);
                checks.due(r.name() + " of " + tape, x.count(4), 0);
                checks.due(r.name() + " of " + tape + ": nothing is there", x.find(), WordMender.BAD);
            }
            WordMender full = new WordMender();
            for (int k = 0; k < 30; k++) full.feed(8, Checks.bytes("aaaaaaaa"));
            checks.due(r.name() + " of 240 bytes", r.call().applyAsInt(full), WordMender.BAD);
            checks.due(r.name() + " of 240 bytes empties it", full.count(4), 0);
        }
        emptiedByArguments();
    }

    private interface WithNumber {
        int read(WordMender x, int n);
    }

    /** An argument outside is no reason to leave THE TAPE as it is. */
    private void emptiedByArguments() {
        WithNumber[] ofRows = {WordMender::add, WordMender::near, WordMender::nearest, WordMender::complete, WordMender::mend};
        for (int n : new int[] {Integer.MIN_VALUE, -1, 1000000, Integer.MAX_VALUE}) {
            for (int k = 0; k < ofRows.length; k++) emptiedBy(ofRows[k], "row reader " + k, "a", n);
            emptiedBy(WordMender::sound, "sound", "a=b", n);
        }
    }

    private void emptiedBy(WithNumber reader, String name, String tape, int n) {
        WordMender x = new WordMender();
        Checks.feed(x, tape);
        checks.due(name + " of " + n, reader.read(x, n), WordMender.BAD);
        checks.due(name + " of " + n + " empties it", x.count(4), 0);
    }

    private void whatDoesNotReadLeavesIt() {
        checks.sentence("Terms", "what reads it empties it");
        WordMender x = Furnished.make();
        x.feed(2, Checks.bytes("ca"));
        x.word(0, 0);
        x.word(-1, 0);
        x.count(4);
        x.count(-1);
        x.price(1, -1, -1, 100);
        x.price(0, 0, 0, 0);
        x.model(5);
        x.model(-1);
        x.way(0, 0);
        x.way(0, 9);
        x.found(0, 0);
        x.found(0, 9);
        x.node(0, 0);
        x.node(0, -1);
        x.learn();
        x.spread();
        x.part(0, 0);
        x.part(0, 9);
        x.put(0, 1, 0);
        x.put(9, 9, 9);
        x.forge(0, 0, 0);
        x.forge(9, 9, 9);
        x.status();
        checks.due("feed behind it", x.feed(1, 'b'), 3);
        checks.due("it was left as it was", x.find(), 3);
    }

    private void otherFormsAreBad() {
        checks.sentence("Terms", "a reading that finds another form than is told answers BAD (-2)");
        String[] rows = {"a", "ab", TWELVE};
        String[] pairs = {"a=b", "abc=abc"};
        String[] longPairs = {"abcd=a", "a=abcd", TWELVE + "=" + TWELVE};
        String[] texts = {"a b", TWELVE + " " + TWELVE, "a a a a a a a a a a a a"};
        String[] none = {"", "=", "==", " ", "  ", "a=", "=a", "a==b", "a=b=", "=a=b", "a=b=c", "a =b", "a= b", " a", "a ",
            "a  b", "A", "aB", "a\0", "\0a", "a-b", "a=B", "A=b", THIRTEEN, "a=" + THIRTEEN, THIRTEEN + "=a", "a " + THIRTEEN,
            "a=b c", "a b=c", "a a a a a a a a a a a a a", "a a a a a a a a a a a a "};
        for (Reader r : Reader.ALL) {
            boolean takesPairs = r.form() == Reader.Form.PAIR;
            takes(r, rows, r.form() == Reader.Form.ROW || r.form() == Reader.Form.TEXT);
            takes(r, pairs, takesPairs || r.form() == Reader.Form.SOUND);
            takes(r, longPairs, takesPairs);
            takes(r, texts, r.form() == Reader.Form.TEXT);
            takes(r, none, false);
        }
    }

    private void takes(Reader r, String[] tapes, boolean due) {
        for (String tape : tapes) checks.due(r.name() + " takes " + tape, r.takes(tape) ? 1 : 0, due ? 1 : 0);
    }

    private void bytesAmongTwoRowsAreBad() {
        checks.sentence("Promise 11", "THE TAPE has MEANT, = and TYPED");
        for (int b = 0; b < 256; b++) {
            for (Reader r : Reader.ALL) {
                if (r.form() != Reader.Form.SOUND && r.form() != Reader.Form.PAIR) continue;
                WordMender x = new WordMender();
                x.feed(1, 'a');
                x.feed(1, b);
                x.feed(1, 'b');
                checks.due(r.name() + ": byte " + b + " for =", r.call().applyAsInt(x) == WordMender.BAD ? 1 : 0, b == 61 ? 0 : 1);
            }
        }
    }

    private void bytesInATextAreBad() {
        checks.sentence("==== 4", "ROWS of LETTERS with one blank (32) between, 1 to 12 of them.");
        for (int b = 0; b < 256; b++) {
            WordMender x = new WordMender();
            x.feed(1, 'a');
            x.feed(1, b);
            x.feed(1, 'b');
            int due = b == 32 ? 2 : b >= 97 && b <= 122 ? 1 : WordMender.BAD;
            checks.due("byte " + b + " between", x.mend(0), due);
        }
    }

    private void refusalsChangeNothing() {
        checks.sentence("Terms", "they change nothing but THE TAPE");
        for (Reader r : Reader.ALL) {
            for (String tape : new String[] {"", "A", THIRTEEN, "abcd=ab=", "abc  ab"}) {
                checks.refused(r.name() + " of " + tape, WordMender.BAD, x -> r.read(x, tape));
            }
        }
    }

    private void fullChangesNothing() {
        checks.sentence("Terms", "Other refusals: FULL (-4); they change nothing but THE TAPE.");
        WordMender x = new WordMender();
        for (int k = 0; k < 20; k++) Checks.sound(x, "a=b", 50);
        for (int k = 0; k < 40; k++) Checks.pair(x, "a=b");
        checks.due("a sound", Checks.sound(x, "c=d", 1), -4);
        checks.due("a pair", Checks.pair(x, "c=d"), -4);
        for (int k = 0; k < 30; k++) x.feed(8, 0);
        checks.due("a byte", x.feed(1, 'a'), -4);
        int[] counts = {0, 0, 20, 40, 240, 0, 0, 0};
        for (int what = 0; what < 8; what++) checks.due("count " + what, x.count(what), counts[what]);
        checks.due("the pairs by the sounds", x.spread(), 40 * 50);
        checks.due("the tape is emptied by what reads it", x.pair(), WordMender.BAD);
        checks.due("no such sound came", Checks.distance(x, "c=d"), 100);
    }

    private void theConstants() {
        checks.sentence("Terms", "NONE is -1.");
        checks.due("NONE", WordMender.NONE, -1);
        checks.due("BAD", WordMender.BAD, -2);
        checks.due("FULL", WordMender.FULL, -4);
        checks.due("find", Checks.find(new WordMender(), "a"), -1);
        checks.due("find of nothing", new WordMender().find(), -2);
    }

    private void feedTakesTheLowest() {
        checks.sentence("Promise 2", "The n lowest bytes of a number, the lowest first, come behind THE TAPE: how many it has.");
        for (int n = 1; n <= 8; n++) {
            WordMender x = new WordMender();
            checks.due(n + " bytes", x.feed(n, Checks.bytes("abcdefgh")), n);
            checks.due(n + " bytes are a word", x.add(1), 1);
            checks.due(n + " letters", x.word(0, 1), n);
            for (int i = 0; i < n; i++) checks.due(n + " bytes: letter " + i, x.word(0, 2 + i), i);
            // What stands above the n lowest bytes does not come, a sign neither.
            long above = n < 8 ? -1L << 8 * n : 0;
            checks.due(n + " bytes below others", x.feed(n, Checks.bytes("abcdefgh".substring(0, n)) | above), n);
            checks.due(n + " bytes below others are the word", x.find(), 0);
            checks.due(n + " bytes of -1", x.feed(n, -1L), n);
            checks.due(n + " bytes of -1 are none of letters", x.find(), WordMender.BAD);
        }
        WordMender x = new WordMender();
        checks.due("first eight", x.feed(8, Checks.bytes("abcdefgh")), 8);
        checks.due("four behind them", x.feed(4, Checks.bytes("ijkl")), 12);
        checks.due("one row", x.add(9), 9);
        for (int i = 0; i < 12; i++) checks.due("letter " + i, x.word(0, 2 + i), i);
    }

    private void feedIsBad() {
        checks.sentence("Promise 2", "BAD: n is not 1 .. 8.");
        for (int n : new int[] {0, -1, -8, Integer.MIN_VALUE, 9, 10, 256, Integer.MAX_VALUE}) {
            WordMender x = Checks.with("ab");
            x.feed(1, 'a');
            checks.due("n " + n, x.feed(n, Checks.bytes("cccccccc")), WordMender.BAD);
            checks.due("n " + n + " leaves one byte", x.count(4), 1);
            checks.due("n " + n + ": the next one", x.feed(1, 'b'), 2);
            checks.due("n " + n + ": what stands", x.find(), 0);
            checks.refused("n " + n, WordMender.BAD, y -> y.feed(n, 0));
        }
    }

    private void feedIsFull() {
        checks.sentence("Promise 2", "FULL.");
        for (int n = 1; n <= 8; n++) {
            for (int has = 240 - 8; has <= 240; has++) {
                WordMender x = fed(has);
                boolean fits = has + n <= 240;
                checks.due(n + " bytes behind " + has, x.feed(n, 0), fits ? has + n : WordMender.FULL);
                checks.due(n + " bytes behind " + has + ": it has", x.count(4), fits ? has + n : has);
                if (!fits) checks.due(240 - has + " fill it", x.feed(Math.max(1, 240 - has), 0), has < 240 ? 240 : WordMender.FULL);
            }
        }
    }

    private static WordMender fed(int bytes) {
        WordMender x = new WordMender();
        for (int k = 0; k < bytes / 8; k++) x.feed(8, 0);
        if (bytes % 8 > 0) x.feed(bytes % 8, 0);
        return x;
    }
}
