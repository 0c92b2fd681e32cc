import java.lang.management.ManagementFactory;
import java.lang.reflect.Array;
import java.lang.reflect.Field;
import java.lang.reflect.Modifier;
import java.util.IdentityHashMap;

/** What an object holds is small, calls make nothing, and no arguments make a call throw. */
public final class RoomTest {
    private static final Checks checks = new Checks();
    private static final int[] ODD = {Integer.MIN_VALUE, -1000, -101, -100, -2, -1, 0, 1, 2, 3, 7, 8, 12, 13, 25, 26, 40,
        100, 101, 200, 201, 239, 9999, 10000, 99999, 100000, 100001, 1000000, Integer.MAX_VALUE};

    public static void main(String[] args) throws Exception {
        holdsLittle();
        makesNothing();
        neverThrows();
        checks.end();
    }

    private static void holdsLittle() throws Exception {
        IdentityHashMap<Object, Boolean> seen = new IdentityHashMap<>();
        long cells = cells(new WordMender(), seen);
        System.out.println(seen.size() + " objects and arrays, " + cells + " fields and elements");
        checks.holds("few objects", seen.size() < 200);
        checks.holds("few cells", cells < 70000);
    }

    private static long cells(Object o, IdentityHashMap<Object, Boolean> seen) throws Exception {
        if (o == null || seen.put(o, true) != null) return 0;
        if (o.getClass().isArray()) return Array.getLength(o);
        long sum = 0;
        for (Field f : o.getClass().getDeclaredFields()) {
            if (Modifier.isStatic(f.getModifiers())) continue;
            f.setAccessible(true);
            sum += 1 + (f.getType().isPrimitive() ? 0 : cells(f.get(o), seen));
        }
        return sum;
    }

    private static WordMender full() {
        WordMender x = new WordMender();
        for (int k = 0; k < 200; k++) {
            StringBuilder s = new StringBuilder();
            for (int i = 0; i < 12; i++) s.append((char) ('a' + (k * (i + 3) + k / 7 * i) % 5));
            Checks.add(x, s.toString(), 1 + k * 31);
        }
        for (int k = 0; k < 20; k++) Checks.sound(x, "a=" + (char) ('a' + k) + "b", 20 + k);
        for (int k = 0; k < 40; k++) Checks.pair(x, "abcdeabcdeab=" + "bacedbacdeab".substring(k % 6));
        return x;
    }

    private static void makesNothing() {
        com.sun.management.ThreadMXBean threads = (com.sun.management.ThreadMXBean) ManagementFactory.getThreadMXBean();
        long id = Thread.currentThread().getId();
        WordMender x = full();
        dearest(x);
        long before = threads.getThreadAllocatedBytes(id);
        for (int k = 0; k < 40; k++) dearest(x);
        long made = threads.getThreadAllocatedBytes(id) - before;
        System.out.println(made + " bytes made by 40 rounds of calls");
        checks.holds("calls make nothing", made < 20000);
    }

    private static void dearest(WordMender x) {
        tape(x, 12);
        x.near(99999);
        tape(x, 12);
        x.complete(300);
        tape(x, 12);
        x.nearest(200);
        for (int k = 0; k < 12; k++) {
            if (k > 0) x.feed(1, ' ');
            tape(x, 11);
        }
        x.mend(1000);
        x.learn();
        x.spread();
        x.put(1, 2, 5);
        x.forge(1, 4, 100);
    }

    private static void tape(WordMender x, int n) {
        for (int k = 0; k < n; k++) x.feed(1, 'a' + k * 5 % 7);
    }

    private static void neverThrows() {
        WordMender[] all = {new WordMender(), Checks.with("a"), full()};
        for (WordMender x : all) {
            Checks.near(x, "abcde", 500);
            Checks.distance(x, "abc=cab");
            Checks.mend(x, "ab cde", 300);
            x.put(1, 1, 0);
            x.put(2, 2, 0);
            x.put(3, 3, 0);
            x.put(4, 4, 0);
            for (int a : ODD) {
                one(x, a);
                for (int b : ODD) {
                    two(x, a, b);
                    for (int c : new int[] {-1, 0, 1, 5, 26, Integer.MAX_VALUE, Integer.MIN_VALUE}) three(x, a, b, c);
                }
            }
            checks.holds("it still answers", x.count(0) >= 0);
        }
    }

    private static void one(WordMender x, int a) {
        for (String tape : new String[] {"", "a", "abc", "ab=cd", "=", "a b", "\0", "abcdefghijklmn"}) {
            Checks.feed(x, tape); x.add(a);
            Checks.feed(x, tape); x.sound(a);
            Checks.feed(x, tape); x.near(a);
            Checks.feed(x, tape); x.nearest(a);
            Checks.feed(x, tape); x.complete(a);
            Checks.feed(x, tape); x.mend(a);
            Checks.feed(x, tape); x.drop();
            Checks.feed(x, tape); x.find();
            Checks.feed(x, tape); x.pair();
            Checks.feed(x, tape); x.distance();
        }
        x.count(a);
        x.model(a);
        x.feed(a, a);
        x.find();
    }

    private static void two(WordMender x, int a, int b) {
        x.word(a, b);
        x.way(a, b);
        x.found(a, b);
        x.node(a, b);
        x.part(a, b);
    }

    private static void three(WordMender x, int a, int b, int c) {
        x.price(a, b, c, 5);
        x.price(1, a, b, c);
        x.put(a, b, c);
        x.forge(a, b, c);
        x.forge(c, a, b);
        x.status();
    }
}
