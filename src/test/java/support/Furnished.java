/** An object that has a bit of everything, and a look at all of it. */
final class Furnished {
    static final String LOOK = look(make());

    private Furnished() { }

    static WordMender make() {
        WordMender x = new WordMender();
        Checks.add(x, "ab", 3);
        Checks.add(x, "abc", 1);
        Checks.add(x, "b", 2);
        Checks.add(x, "cab", 100000);
        Checks.add(x, "keyboard", 7);
        Checks.sound(x, "c=k", 5);
        Checks.pair(x, "ab=ba");
        Checks.pair(x, "abc=ab");
        x.price(1, 0, 1, 33);
        x.price(2, 0, -1, 44);
        x.price(3, 0, -1, 55);
        x.price(6, -1, -1, 66);
        x.price(8, -1, -1, 61);
        x.price(9, -1, -1, 62);
        x.model(1000);
        Checks.distance(x, "abcz=bak");
        Checks.mend(x, "ab keyb oard abcab q bb", 110);
        Checks.near(x, "abd", 150);
        x.put(1, 1, 1);
        x.put(2, 2, 2);
        x.put(3, 3, 0);
        x.put(4, 4, 3);
        lastStatus(x);
        return x;
    }

    /** STATUS is what it is in a furnished object. */
    static void lastStatus(WordMender x) {
        x.forge(0, 7, 0);
    }

    /** All that can be seen of it; looking changes prices and empties THE TAPE. */
    static String look(WordMender x) {
        StringBuilder all = new StringBuilder();
        all.append("status ").append(x.status()).append(" counts");
        for (int what = 0; what < 8; what++) all.append(' ').append(x.count(what));
        all.append(" words");
        for (int w = 0; w < 6; w++) for (int what = 0; what < 5; what++) all.append(' ').append(x.word(w, what));
        all.append(" way ").append(x.way(-1, 0));
        for (int i = 0; i < 5; i++) for (int what = 0; what < 5; what++) all.append(' ').append(x.way(i, what));
        all.append(" found");
        for (int i = 0; i < 4; i++) for (int what = 0; what < 3; what++) all.append(' ').append(x.found(i, what));
        all.append(" nodes");
        for (int i = 0; i < 5; i++) for (int what = 0; what < 9; what++) all.append(' ').append(x.node(i, what));
        all.append(" parts ").append(x.part(-1, 1));
        for (int i = 0; i < 6; i++) for (int what = 0; what < 5; what++) all.append(' ').append(x.part(i, what));
        trays(all, x);
        prices(all, x);
        return all.toString();
    }

    private static void trays(StringBuilder all, WordMender x) {
        all.append(" trays");
        for (int tray = 0; tray < 8; tray++) all.append(' ').append(x.forge(tray, 6, 0)).append(' ').append(x.status());
        for (int n = 0; n < 3; n++) all.append(' ').append(x.forge(1, 0, n)).append(' ').append(x.forge(2, 1, n));
        for (int n = 0; n < 6; n++) all.append(' ').append(x.forge(3, 2, n)).append(' ').append(x.forge(4, 3, n));
    }

    private static void prices(StringBuilder all, WordMender x) {
        all.append(" spread ").append(x.spread()).append(" weight ").append(x.model(0)).append(" prices");
        for (int kind = 1; kind < 10; kind++) all.append(' ').append(x.price(kind, -1, -1, 1));
        all.append(' ').append(x.price(1, 0, 1, 0)).append(' ').append(x.price(1, 1, 0, 0));
        for (int kind = 2; kind < 4; kind++) {
            for (int a = 0; a < 2; a++) all.append(' ').append(x.price(kind, a, -1, 0));
        }
        Checks.feed(x, "c=k");
        all.append(" sound ").append(x.sound(9999)).append(' ').append(Checks.distance(x, "cc=kk"));
    }
}
