import java.util.ArrayList;
import java.util.Arrays;
import java.util.HashMap;
import java.util.List;
import java.util.Map;
import java.util.TreeMap;

/**
 * The document's sentences, one by one and without any thrift: what WordMender is held against.
 * Every DISTANCE is looked for anew by trying all SLIPS, every NODE asks for the DISTANCES of its
 * beginning, and a text is mended by trying all rows of PARTS.
 */
final class PlainMender {
    static final int NONE = -1, BAD = -2, FULL = -4;

    private record Sound(String first, String second, int price) { }

    private record Slip(int kind, int sound, int price, int i, int j, int meantTaken, int typedTaken) { }

    private record Hit(int number, int distance, int share, int count) { }

    private record Node(String letters, int[] state, boolean left, boolean isWord) { }

    private record Part(int kind, int price, int first, int second, int rows) { }

    private static final class Best {
        int sum;
        List<Slip> slips;
    }

    private final StringBuilder tape = new StringBuilder();
    private final TreeMap<String, Integer> words = new TreeMap<>();
    private final int[] prices = {0, 100, 100, 100, 100, 100, 100, 0, 60, 60};
    private final Map<String, Integer> own = new HashMap<>();
    private final List<Sound> sounds = new ArrayList<>();
    private final List<String[]> pairs = new ArrayList<>();
    private int weight;
    private List<Slip> way = new ArrayList<>();
    private List<Hit> hits = new ArrayList<>();
    private List<Node> nodes = new ArrayList<>();
    private List<Part> parts = new ArrayList<>();
    private final Object[] trays = new Object[8];
    private int status;

    // ---- THE TAPE

    int feed(int n, long bytes) {
        if (n < 1 || n > 8) return BAD;
        if (tape.length() + n > 240) return FULL;
        for (int k = 0; k < n; k++) {
            tape.append((char) (bytes & 255));
            bytes >>>= 8;
        }
        return tape.length();
    }

    private String take() {
        String all = tape.toString();
        tape.setLength(0);
        return all;
    }

    private static boolean isRow(String s, int most) {
        return s.length() <= most && s.matches("[a-z]+");
    }

    private static String[] two(String s, int most) {
        String[] sides = s.split("=", -1);
        return sides.length == 2 && isRow(sides[0], most) && isRow(sides[1], most) ? sides : null;
    }

    // ---- THE LEXICON

    private List<String> list() {
        return new ArrayList<>(words.keySet());
    }

    int add(int count) {
        String row = take();
        if (!isRow(row, 12) || count < 1 || count > 100000) return BAD;
        if (!words.containsKey(row) && words.size() == 200) return FULL;
        words.merge(row, count, (x, y) -> Math.min(100000, x + y));
        return words.get(row);
    }

    int drop() {
        String row = take();
        if (!isRow(row, 12)) return BAD;
        Integer had = words.remove(row);
        return had == null ? 0 : had;
    }

    int find() {
        String row = take();
        return isRow(row, 12) ? list().indexOf(row) : BAD;
    }

    int word(int w, int what) {
        if (w < 0 || w >= words.size() || what < 0) return BAD;
        String row = list().get(w);
        if (what == 0) return words.get(row);
        if (what == 1) return row.length();
        return what - 2 < row.length() ? row.charAt(what - 2) - 'a' : NONE;
    }

    private java.util.TreeSet<String> beginnings() {
        java.util.TreeSet<String> all = new java.util.TreeSet<>();
        for (String w : words.keySet()) for (int k = 0; k <= w.length(); k++) all.add(w.substring(0, k));
        return all;
    }

    int count(int what) {
        switch (what) {
            case 0: return words.size();
            case 1: return beginnings().size();
            case 2: return sounds.size();
            case 3: return pairs.size();
            case 4: return tape.length();
            case 5: return nodes.size();
            case 6: return (int) nodes.stream().filter(Node::left).count();
            case 7: return hits.size();
            default: return BAD;
        }
    }

    // ---- SLIPS

    int price(int kind, int a, int b, int v) {
        if (v < 0 || v > 9999) return BAD;
        if (a == NONE && b == NONE) {
            if (kind < 1 || kind == 7 || kind > 9 || v == 0) return BAD;
            int before = prices[kind];
            prices[kind] = v;
            return before;
        }
        if (kind < 1 || kind > 3 || a < 0 || a > 25) return BAD;
        if (kind == 1 && (b < 0 || b > 25 || a == b)) return BAD;
        String key = kind == 1 ? "1" + (char) ('a' + a) + (char) ('a' + b) : "" + kind + (char) ('a' + a);
        Integer before = v == 0 ? own.remove(key) : own.put(key, v);
        return before == null ? 0 : before;
    }

    private int priced(int kind, String letters) {
        return own.getOrDefault(kind + letters, prices[kind]);
    }

    int sound(int v) {
        String[] sides = two(take(), 3);
        if (sides == null || v < 1 || v > 9999) return BAD;
        if (sounds.size() == 20) return FULL;
        sounds.add(new Sound(sides[0], sides[1], v));
        return sounds.size() - 1;
    }

    int model(int w) {
        if (w < 0 || w > 100000) return BAD;
        int before = weight;
        weight = w;
        return before;
    }

    /** All SLIPS that stand at these places, the least KIND first. */
    private List<Slip> slipsAt(String m, int i, String t, int j) {
        List<Slip> all = new ArrayList<>();
        String mm = m.substring(i);
        String tt = t.substring(j);
        String a = mm.isEmpty() ? null : mm.substring(0, 1);
        String b = tt.isEmpty() ? null : tt.substring(0, 1);
        if (a != null && a.equals(b)) all.add(new Slip(0, -1, 0, i, j, 1, 1));
        if (a != null && b != null && !a.equals(b)) all.add(new Slip(1, -1, priced(1, a + b), i, j, 1, 1));
        if (a != null) all.add(new Slip(2, -1, priced(2, a), i, j, 1, 0));
        if (b != null) all.add(new Slip(3, -1, priced(3, b), i, j, 0, 1));
        if (a != null && b != null && !a.equals(b) && mm.startsWith(a + b) && tt.startsWith(b + a)) {
            all.add(new Slip(4, -1, prices[4], i, j, 2, 2));
        }
        if (a != null && tt.startsWith(a + a)) all.add(new Slip(5, -1, prices[5], i, j, 1, 2));
        if (a != null && mm.startsWith(a + a) && tt.startsWith(a)) all.add(new Slip(6, -1, prices[6], i, j, 2, 1));
        for (int k = 0; k < sounds.size(); k++) {
            Sound s = sounds.get(k);
            if (mm.startsWith(s.first) && tt.startsWith(s.second)) {
                all.add(new Slip(7, k, s.price, i, j, s.first.length(), s.second.length()));
            }
        }
        return all;
    }

    private static int compareWays(List<Slip> x, List<Slip> y) {
        for (int k = 0; k < Math.min(x.size(), y.size()); k++) {
            int c = Integer.compare(x.get(k).kind, y.get(k).kind);
            if (c == 0) c = Integer.compare(x.get(k).sound, y.get(k).sound);
            if (c != 0) return c;
        }
        return Integer.compare(x.size(), y.size());
    }

    private Best best(String m, int i, String t, int j, Best[][] known) {
        if (known[i][j] != null) return known[i][j];
        Best best = new Best();
        if (i == m.length() && j == t.length()) {
            best.slips = new ArrayList<>();
        } else {
            for (Slip s : slipsAt(m, i, t, j)) {
                Best rest = best(m, i + s.meantTaken, t, j + s.typedTaken, known);
                List<Slip> whole = new ArrayList<>();
                whole.add(s);
                whole.addAll(rest.slips);
                int sum = s.price + rest.sum;
                if (best.slips == null || sum < best.sum || sum == best.sum && compareWays(whole, best.slips) < 0) {
                    best.sum = sum;
                    best.slips = whole;
                }
            }
        }
        known[i][j] = best;
        return best;
    }

    private Best best(String m, String t) {
        return best(m, 0, t, 0, new Best[m.length() + 1][t.length() + 1]);
    }

    int distance() {
        String[] sides = two(take(), 12);
        if (sides == null) return BAD;
        Best best = best(sides[0], sides[1]);
        way = best.slips;
        return best.sum;
    }

    int way(int i, int what) {
        if (what < 0 || what > 4) return BAD;
        if (i == -1) return way.size();
        if (i < 0 || i >= way.size()) return NONE;
        Slip s = way.get(i);
        return new int[] {s.kind, s.price, s.i, s.j, s.sound}[what];
    }

    // ---- THE TREE

    private int share(String w) {
        return (int) ((weight / 1000f) * (float) words.get(w).intValue());
    }

    private List<Hit> ranked(Map<String, Integer> distances) {
        List<Hit> all = new ArrayList<>();
        List<String> list = list();
        for (String w : list) {
            if (distances.containsKey(w)) {
                all.add(new Hit(list.indexOf(w), distances.get(w), share(w), words.get(w)));
            }
        }
        all.sort((x, y) -> {
            int c = Integer.compare(x.distance - x.share, y.distance - y.share);
            if (c == 0) c = Integer.compare(y.count, x.count);
            return c != 0 ? c : Integer.compare(x.number, y.number);
        });
        return all;
    }

    private Map<String, Integer> within(String typed, int bound) {
        Map<String, Integer> all = new HashMap<>();
        for (String w : words.keySet()) {
            int d = best(w, typed).sum;
            if (d <= bound) all.put(w, d);
        }
        return all;
    }

    private int[] state(String beginning, String typed) {
        int[] state = new int[typed.length() + 1];
        for (int j = 0; j <= typed.length(); j++) state[j] = best(beginning, typed.substring(0, j)).sum;
        return state;
    }

    private static int least(int[] state) {
        return Arrays.stream(state).min().getAsInt();
    }

    private void meet(String beginning, int above, int aboveThat, String typed, int bound, java.util.Set<String> tree) {
        int[] state = state(beginning, typed);
        int here = least(state);
        boolean left = here > bound && above > bound && aboveThat > bound;
        nodes.add(new Node(beginning, state, left, words.containsKey(beginning)));
        if (left) return;
        for (char c = 'a'; c <= 'z'; c++) {
            if (tree.contains(beginning + c)) meet(beginning + c, here, above, typed, bound, tree);
        }
    }

    private void walk(String typed, int bound) {
        nodes = new ArrayList<>();
        if (!words.isEmpty()) meet("", Integer.MAX_VALUE, Integer.MAX_VALUE, typed, bound, beginnings());
    }

    int near(int bound) {
        String typed = take();
        if (!isRow(typed, 12) || bound < 0 || bound > 99999) return BAD;
        walk(typed, bound);
        hits = ranked(within(typed, bound));
        return hits.size();
    }

    int nearest(int n) {
        String typed = take();
        if (!isRow(typed, 12) || n < 1 || n > 200) return BAD;
        List<Hit> all = ranked(within(typed, Integer.MAX_VALUE));
        hits = all.subList(0, Math.min(n, all.size()));
        return hits.size();
    }

    int complete(int bound) {
        String typed = take();
        if (!isRow(typed, 12) || bound < 0 || bound > 99999) return BAD;
        walk(typed, bound);
        Map<String, Integer> all = new HashMap<>();
        for (String w : words.keySet()) {
            int d = Integer.MAX_VALUE;
            for (int k = 0; k <= w.length(); k++) d = Math.min(d, best(w.substring(0, k), typed).sum);
            if (d <= bound) all.put(w, d);
        }
        hits = ranked(all);
        return hits.size();
    }

    int found(int i, int what) {
        if (what < 0 || what > 2) return BAD;
        if (i < 0 || i >= hits.size()) return NONE;
        Hit h = hits.get(i);
        return new int[] {h.number, h.distance, h.share}[what];
    }

    int node(int i, int what) {
        if (what < 0) return BAD;
        if (i < 0 || i >= nodes.size()) return NONE;
        Node n = nodes.get(i);
        switch (what) {
            case 0: return n.letters.length();
            case 1: return n.letters.isEmpty() ? NONE : n.letters.charAt(n.letters.length() - 1) - 'a';
            case 2: return least(n.state);
            case 3: return n.left ? 1 : 0;
            case 4: return n.isWord ? 1 : 0;
            default: return what - 5 < n.state.length ? n.state[what - 5] : NONE;
        }
    }

    // ---- PAIRS

    int pair() {
        String[] sides = two(take(), 12);
        if (sides == null) return BAD;
        if (pairs.size() == 40) return FULL;
        pairs.add(sides);
        return pairs.size() - 1;
    }

    int learn() {
        if (pairs.isEmpty()) return 0;
        String before = null;
        for (int round = 1; ; round++) {
            StringBuilder ways = new StringBuilder();
            int[] c = new int[7];
            int n = 0;
            for (String[] p : pairs) {
                for (Slip s : best(p[0], p[1]).slips) {
                    ways.append(s.kind).append('.').append(s.sound).append(' ');
                    if (s.kind >= 1 && s.kind <= 6) {
                        c[s.kind]++;
                        n++;
                    }
                }
                ways.append('\n');
            }
            if (n == 0) return round;
            for (int k = 1; k <= 6; k++) prices[k] = 200 - 180 * c[k] / n;
            if (ways.toString().equals(before) || round == 20) return round;
            before = ways.toString();
        }
    }

    int spread() {
        int sum = 0;
        for (String[] p : pairs) sum += best(p[0], p[1]).sum;
        return sum;
    }

    // ---- TO MEND

    private List<Part> partsAt(String[] rows, int r, int bound) {
        List<Part> all = new ArrayList<>();
        List<String> list = list();
        boolean known = words.containsKey(rows[r]);
        if (known) all.add(new Part(0, 0, list.indexOf(rows[r]), NONE, 1));
        if (!known) {
            List<Hit> near = ranked(within(rows[r], bound));
            if (!near.isEmpty()) all.add(new Part(1, near.get(0).distance, near.get(0).number, NONE, 1));
        }
        if (r + 1 < rows.length && !(known && words.containsKey(rows[r + 1])) && words.containsKey(rows[r] + rows[r + 1])) {
            all.add(new Part(2, prices[8], list.indexOf(rows[r] + rows[r + 1]), NONE, 2));
        }
        if (!known) {
            for (int k = 1; k < rows[r].length(); k++) {
                String x = rows[r].substring(0, k);
                String y = rows[r].substring(k);
                if (words.containsKey(x) && words.containsKey(y)) {
                    all.add(new Part(3, prices[9], list.indexOf(x), list.indexOf(y), 1));
                    break;
                }
            }
            all.add(new Part(4, bound + 1, NONE, NONE, 1));
        }
        return all;
    }

    private static int sum(List<Part> row) {
        return row.stream().mapToInt(Part::price).sum();
    }

    private static boolean isBetter(List<Part> x, List<Part> y) {
        if (y == null || sum(x) != sum(y)) return y == null || sum(x) < sum(y);
        for (int k = 0; k < Math.min(x.size(), y.size()); k++) {
            if (x.get(k).kind != y.get(k).kind) return x.get(k).kind < y.get(k).kind;
        }
        return x.size() < y.size();
    }

    private List<Part> bestParts(List<List<Part>> offered, int r, Map<Integer, List<Part>> known) {
        if (r == offered.size()) return new ArrayList<>();
        if (known.containsKey(r)) return known.get(r);
        List<Part> best = null;
        for (Part p : offered.get(r)) {
            List<Part> whole = new ArrayList<>();
            whole.add(p);
            whole.addAll(bestParts(offered, r + p.rows, known));
            if (isBetter(whole, best)) best = whole;
        }
        known.put(r, best);
        return best;
    }

    int mend(int bound) {
        String[] rows = take().split(" ", -1);
        if (rows.length > 12 || bound < 0 || bound > 99999) return BAD;
        for (String r : rows) if (!isRow(r, 12)) return BAD;
        List<List<Part>> offered = new ArrayList<>();
        for (int r = 0; r < rows.length; r++) offered.add(partsAt(rows, r, bound));
        parts = bestParts(offered, 0, new HashMap<>());
        return parts.size();
    }

    int part(int i, int what) {
        if (what < 0 || what > 4) return BAD;
        if (i == -1) return what == 1 ? sum(parts) : NONE;
        if (i < 0 || i >= parts.size()) return NONE;
        Part p = parts.get(i);
        return new int[] {p.kind, p.price, p.first, p.second, p.rows}[what];
    }

    // ---- TRAYS: the host itself refuses

    private static int done(PlainMender m, int status, int answer) {
        m.status = status;
        return answer;
    }

    int put(int tray, int what, int n) {
        if (tray < 0 || tray > 7 || what < 0 || what > 4) return done(this, 1, -1);
        if ((what == 1 || what == 4) && (n < 0 || n >= words.size())) return done(this, 1, -1);
        if (what == 2 && (n < 0 || n >= nodes.size())) return done(this, 1, -1);
        String w = what == 1 || what == 4 ? list().get(n) : "";
        boolean[] truths = new boolean[26];
        for (char c : w.toCharArray()) truths[c - 'a'] = true;
        short[] six = new short[6];
        for (int k = 0; k < 6; k++) six[k] = (short) prices[k + 1];
        Object[] things = {null, w.getBytes(), what == 2 ? nodes.get(n).state : null, six, truths};
        trays[tray] = things[what];
        return done(this, 0, 1);
    }

    int forge(int tray, int what, int n) {
        if (tray < 0 || tray > 7 || what < 0 || what > 8 || n < -100 || n > 100) return done(this, 1, -1);
        try {
            return done(this, 0, work(trays[tray], what, n));
        } catch (NullPointerException e) {
            return done(this, 10, -1);
        } catch (ClassCastException e) {
            return done(this, 11, -1);
        } catch (IndexOutOfBoundsException e) {
            return done(this, 12, -1);
        } catch (NegativeArraySizeException e) {
            return done(this, 13, -1);
        } catch (ArrayStoreException e) {
            return done(this, 14, -1);
        } catch (ArithmeticException e) {
            return done(this, 15, -1);
        }
    }

    private static int work(Object thing, int what, int n) {
        switch (what) {
            case 0: return ((byte[]) thing)[n] - 'a';
            case 1: return ((int[]) thing)[n];
            case 2: return ((short[]) thing)[n];
            case 3: return ((boolean[]) thing)[n] ? 1 : 0;
            case 4: return new int[n].length;
            case 5: {
                byte[] row = new byte[6];
                System.arraycopy((byte[]) thing, 1, row, n, n);
                int sum = 0;
                for (byte b : row) sum += b;
                return sum;
            }
            case 6: {
                Object[] rows = new int[1][];
                rows[0] = thing;
                return rows[0] == null ? 0 : ((int[]) rows[0]).length;
            }
            case 7: return 1000 / n;
            default: {
                RuntimeException failure = null;
                throw failure;
            }
        }
    }

    int status() {
        return status;
    }
}
