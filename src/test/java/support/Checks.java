import java.util.TreeSet;
import java.util.function.ToIntFunction;

/** Counts answers that are not the due ones, and ends the program with 1 if there were any. */
final class Checks {
    private int wrong;
    private int asked;
    private int sentences;
    private final TreeSet<String> places = new TreeSet<>();
    /** Where the sentence that is looked at stands, and its words. */
    private String sentence = "";

    /** What is asked from here on looks at this sentence of the document. */
    void sentence(String place, String words) {
        sentences++;
        places.add(place);
        sentence = place + ", \"" + words + "\": ";
        holds("the document has it", Document.says(place, words));
    }

    void due(String call, long got, long want) {
        same(call, Long.toString(got), Long.toString(want));
    }

    /** A refused call changes nothing of an object that has a bit of everything. */
    void refused(String call, int want, ToIntFunction<WordMender> refusal) {
        WordMender x = Furnished.make();
        due(call, refusal.applyAsInt(x), want);
        same(call + ", and what stands then,", Furnished.look(x), Furnished.LOOK);
    }

    /** The host's refusal of a put() or forge() changes nothing but STATUS. */
    void refusedByHost(String call, int status, ToIntFunction<WordMender> refusal) {
        refused(call, -1, x -> {
            int answer = refusal.applyAsInt(x);
            due(call + ", its STATUS,", x.status(), status);
            Furnished.lastStatus(x);
            return answer;
        });
    }

    void holds(String what, boolean truth) {
        due(what, truth ? 1 : 0, 1);
    }

    int wrong() {
        return wrong;
    }

    /** Which places of the document the sentences were of. */
    TreeSet<String> places() {
        return places;
    }

    void end() {
        if (sentences > 0) System.out.println(sentences + " sentences of the document");
        System.out.println(asked + " answers looked at, " + wrong + " of them not as due");
        if (wrong != 0) System.exit(1);
    }

    /** Feeds a text, eight bytes at a time. */
    static void feed(WordMender x, String text) {
        for (int from = 0; from < text.length(); from += 8) {
            int n = Math.min(8, text.length() - from);
            x.feed(n, bytes(text.substring(from, from + n)));
        }
    }

    static long bytes(String text) {
        long all = 0;
        for (int k = text.length() - 1; k >= 0; k--) all = all << 8 | text.charAt(k) & 255;
        return all;
    }

    static int add(WordMender x, String row, int count) {
        feed(x, row);
        return x.add(count);
    }

    static WordMender with(String... words) {
        WordMender x = new WordMender();
        for (String w : words) add(x, w, 1);
        return x;
    }

    static int find(WordMender x, String row) {
        feed(x, row);
        return x.find();
    }

    static int drop(WordMender x, String row) {
        feed(x, row);
        return x.drop();
    }

    static int sound(WordMender x, String rows, int v) {
        feed(x, rows);
        return x.sound(v);
    }

    static int distance(WordMender x, String rows) {
        feed(x, rows);
        return x.distance();
    }

    static int pair(WordMender x, String rows) {
        feed(x, rows);
        return x.pair();
    }

    static int near(WordMender x, String typed, int bound) {
        feed(x, typed);
        return x.near(bound);
    }

    static int nearest(WordMender x, String typed, int n) {
        feed(x, typed);
        return x.nearest(n);
    }

    static int complete(WordMender x, String typed, int bound) {
        feed(x, typed);
        return x.complete(bound);
    }

    static int mend(WordMender x, String text, int bound) {
        feed(x, text);
        return x.mend(bound);
    }

    /** KINDS of THE WAY of the latest distance(), a SOUND k as (k). */
    static String way(WordMender x) {
        StringBuilder all = new StringBuilder();
        for (int i = 0; i < x.way(-1, 0); i++) {
            int kind = x.way(i, 0);
            if (kind == 7) all.append('(').append(x.way(i, 4)).append(')');
            else all.append(kind);
        }
        return all.toString();
    }

    /** The numbers FOUND, and their DISTANCES. */
    static String found(WordMender x) {
        StringBuilder all = new StringBuilder();
        for (int i = 0; i < x.count(7); i++) {
            all.append(i == 0 ? "" : " ").append(x.found(i, 0)).append(':').append(x.found(i, 1));
        }
        return all.toString();
    }

    /** KINDS of THE MENDING's PARTS. */
    static String parts(WordMender x) {
        StringBuilder all = new StringBuilder();
        for (int i = 0; x.part(i, 0) >= 0; i++) all.append(x.part(i, 0));
        return all.toString();
    }

    void same(String call, String got, String want) {
        asked++;
        if (!got.equals(want)) {
            wrong++;
            if (wrong <= 40) System.out.println(sentence + call + " answered " + got + ", due is " + want);
        }
    }
}
