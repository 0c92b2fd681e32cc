import java.util.Arrays;

/**
 * Leads misspelt words back to a lexicon. What each call takes, does and answers is told in
 * ../shared/DOC.md; the words in capitals here are that document's.
 *
 * <p>Every array is made by the constructor and used again, so that no call makes an object.
 */
public final class WordMender {
    public static final int NONE = -1, BAD = -2, FULL = -4;

    private static final int LETTERS = 26;
    /** How many LETTERS a ROW has at most, and how many places a STATE has then. */
    private static final int ROW = 12, PLACES = ROW + 1;
    private static final int TAPE = 240, WORDS = 200, NODES = WORDS * ROW + 1;
    private static final int SOUNDS = 20, PAIRS = 40, TEXT = 12, TRAYS = 8, ROUNDS = 20;
    private static final int MOST_COUNT = 100000, MOST_WEIGHT = 100000;
    private static final int MOST_PRICE = 9999, MOST_BOUND = 99999;
    private static final int FAR = 1000000;

    /** KINDS of SLIPS; SOUND k has the code SOUND + k, so that codes stand in THE WAY's order. */
    private static final int SAME = 0, SWAP = 1, LEFT_OUT = 2, PUT_IN = 3, TURNED = 4, DOUBLED = 5,
            HALVED = 6, SOUND = 7;
    /** KINDS that price() names and no SLIP has. */
    private static final int SPLITS = 8, JOINS = 9;

    /** KINDS of PARTS. */
    private static final int KEPT = 0, MENDED = 1, SPLIT = 2, JOINED = 3, UNKNOWN = 4, PART_KINDS = 5;

    /** THINGS in TRAYS. */
    private static final int NOTHING = 0, LETTER_ROW = 1, STATE = 2, PRICE_ROW = 3, TRUTHS = 4;

    private final Tape tape;
    private final Lexicon lexicon;
    private final Slips slips;
    /** What a call has read, for as long as it works. */
    private final Row meant, typed;
    private final Rows text;
    private final Way latestWay, trialWay;
    private final Rows pairsMeant, pairsTyped;
    /** The codes of each PAIR's WAY in the ROUND before, NONE behind the last one. */
    private final int[] roundCodes;
    /** How many SLIPS of each KIND a ROUND has found. */
    private final int[] roundCounts;
    private final Walk walk;
    private final Found latestFound, firstFound;
    private final Mending mending;
    private final Trays trays;

    public WordMender() {
        tape = new Tape();
        lexicon = new Lexicon();
        slips = new Slips();
        meant = new Row();
        typed = new Row();
        text = new Rows(TEXT);
        latestWay = new Way(slips);
        trialWay = new Way(slips);
        pairsMeant = new Rows(PAIRS);
        pairsTyped = new Rows(PAIRS);
        roundCodes = new int[PAIRS * Way.MOST];
        roundCounts = new int[SOUND];
        walk = new Walk(lexicon, slips);
        latestFound = new Found(lexicon);
        firstFound = new Found(lexicon);
        mending = new Mending();
        trays = new Trays();
    }

    public int feed(int n, long bytes) {
        return tape.append(n, bytes);
    }

    public int add(int count) {
        boolean read = tape.takeRow(typed);
        if (!read || count < 1 || count > MOST_COUNT) {
            return BAD;
        }
        return lexicon.grow(typed, count);
    }

    public int drop() {
        return tape.takeRow(typed) ? lexicon.remove(typed) : BAD;
    }

    public int find() {
        return tape.takeRow(typed) ? lexicon.numberOf(typed) : BAD;
    }

    public int word(int w, int what) {
        if (w < 0 || w >= lexicon.words.size || what < 0) {
            return BAD;
        }
        if (what == 0) {
            return lexicon.countOf(w);
        }
        return what == 1 ? lexicon.words.sizeOf(w) : lexicon.words.at(w, what - 2);
    }

    public int count(int what) {
        switch (what) {
            case 0: return lexicon.words.size;
            case 1: return lexicon.nodes();
            case 2: return slips.firsts.size;
            case 3: return pairsMeant.size;
            case 4: return tape.size;
            case 5: return walk.met.size;
            case 6: return walk.met.left;
            case 7: return latestFound.size;
            default: return BAD;
        }
    }

    public int price(int kind, int a, int b, int v) {
        if (v < 0 || v > MOST_PRICE) {
            return BAD;
        }
        if (a == NONE && b == NONE) {
            return slips.setKind(kind, v);
        }
        return slips.setByLetters(kind, a, b, v);
    }

    public int sound(int v) {
        boolean read = tape.takeTwo(Slips.SOUND_ROW, meant, typed);
        if (!read || v < 1 || v > MOST_PRICE) {
            return BAD;
        }
        return slips.addSound(meant, typed, v);
    }

    public int model(int weight) {
        if (weight < 0 || weight > MOST_WEIGHT) {
            return BAD;
        }
        int before = lexicon.weight;
        lexicon.weight = weight;
        return before;
    }

    public int distance() {
        if (!tape.takeTwo(ROW, meant, typed)) {
            return BAD;
        }
        int least = latestWay.measure(meant, typed);
        latestWay.trace(meant, typed);
        return least;
    }

    public int way(int i, int what) {
        if (what < 0 || what > 4) {
            return BAD;
        }
        return i == -1 ? latestWay.size : latestWay.tell(i, what);
    }

    public int near(int bound) {
        boolean read = tape.takeRow(typed);
        if (!read || isNoBound(bound)) {
            return BAD;
        }
        walk.go(typed, bound, true);
        return latestFound.gather(walk.wholes, bound, WORDS);
    }

    public int nearest(int n) {
        boolean read = tape.takeRow(typed);
        if (!read || n < 1 || n > WORDS) {
            return BAD;
        }
        walk.go(typed, FAR, false);
        return latestFound.gather(walk.wholes, FAR, n);
    }

    public int complete(int bound) {
        boolean read = tape.takeRow(typed);
        if (!read || isNoBound(bound)) {
            return BAD;
        }
        walk.go(typed, bound, true);
        return latestFound.gather(walk.begun, bound, WORDS);
    }

    public int found(int i, int what) {
        return what < 0 || what > 2 ? BAD : latestFound.tell(i, what);
    }

    public int node(int i, int what) {
        return what < 0 ? BAD : walk.met.tell(i, what);
    }

    public int pair() {
        if (!tape.takeTwo(ROW, meant, typed)) {
            return BAD;
        }
        if (pairsMeant.isFull() || pairsTyped.isFull()) {
            return FULL;
        }
        pairsMeant.append(meant);
        pairsTyped.append(typed);
        return pairsMeant.size - 1;
    }

    public int learn() {
        // No WAY has NONE for its first code: the first ROUND is never the same as this one.
        Arrays.fill(roundCodes, NONE);
        int rounds = 0;
        boolean more = pairsMeant.size > 0;
        while (more && rounds < ROUNDS) {
            boolean same = findWays();
            boolean learnt = slips.setByCounts(roundCounts);
            more = learnt && !same;
            rounds++;
        }
        return rounds;
    }

    public int spread() {
        int sum = 0;
        for (int p = 0; p < pairsMeant.size; p++) {
            readPair(p);
            sum += trialWay.measure(meant, typed);
        }
        return sum;
    }

    public int mend(int bound) {
        boolean read = tape.takeText(text, typed);
        if (!read || isNoBound(bound)) {
            return BAD;
        }
        mending.clear(text.size);
        for (int r = 0; r < text.size; r++) {
            text.copyTo(r, typed);
            int known = lexicon.numberOf(typed);
            if (known != NONE) {
                mending.offer(KEPT, r, 0, known, NONE);
            }
        }
        for (int r = 0; r < text.size; r++) {
            offerSplit(r);
            if (!mending.offers(KEPT, r)) {
                offerJoin(r);
                mending.offer(UNKNOWN, r, bound + 1, NONE, NONE);
                text.copyTo(r, typed);
                walk.go(typed, bound, false);
                offerMended(r, bound);
            }
        }
        return mending.choose();
    }

    public int part(int i, int what) {
        return what < 0 || what > 4 ? BAD : mending.tell(i, what);
    }

    public int put(int tray, int what, int n) {
        if (tray < 0 || tray >= TRAYS || !isThing(what, n)) {
            return trays.refuse(Trays.NO_SUCH);
        }
        trays.clear(tray, what);
        if (what == LETTER_ROW) {
            layLetters(tray, n);
        } else if (what == STATE) {
            layState(tray, n);
        } else if (what == PRICE_ROW) {
            layPrices(tray);
        } else if (what == TRUTHS) {
            layTruths(tray, n);
        }
        return trays.done(1);
    }

    public int forge(int tray, int what, int n) {
        return trays.work(tray, what, n);
    }

    public int status() {
        return trays.status;
    }

    private static boolean isNoBound(int bound) {
        return bound < 0 || bound > MOST_BOUND;
    }

    /** THE WAY of each PAIR by the prices of now: whether all are those of the ROUND before. */
    private boolean findWays() {
        Arrays.fill(roundCounts, 0);
        boolean same = true;
        for (int p = 0; p < pairsMeant.size; p++) {
            readPair(p);
            trialWay.measure(meant, typed);
            trialWay.trace(meant, typed);
            if (!noteWay(p * Way.MOST)) {
                same = false;
            }
        }
        return same;
    }

    private void readPair(int p) {
        pairsMeant.copyTo(p, meant);
        pairsTyped.copyTo(p, typed);
    }

    /** Counts the KINDS of the WAY just found and keeps its codes: whether they were there. */
    private boolean noteWay(int from) {
        boolean same = true;
        for (int k = 0; k < Way.MOST; k++) {
            int code = trialWay.codeAt(k);
            if (code >= 0 && code < roundCounts.length) {
                roundCounts[code]++;
            }
            int cell = from + k;
            if (cell >= 0 && cell < roundCodes.length) {
                same = same && roundCodes[cell] == code;
                roundCodes[cell] = code;
            }
        }
        return same;
    }

    /** SPLIT is offered for a row of the text and the next one, if both make a WORD. */
    private void offerSplit(int r) {
        if (r + 1 >= text.size || mending.offers(KEPT, r) && mending.offers(KEPT, r + 1)
                || text.sizeOf(r) + text.sizeOf(r + 1) > ROW) {
            return;
        }
        text.copyTo(r, meant);
        for (int k = 0; k < text.sizeOf(r + 1); k++) {
            meant.append(text.at(r + 1, k));
        }
        int whole = lexicon.numberOf(meant);
        if (whole != NONE) {
            mending.offer(SPLIT, r, slips.kindPrice(SPLITS), whole, NONE);
        }
    }

    /** MENDED is offered for a row of the text by what THE WALK for it has just told of WORDS. */
    private void offerMended(int r, int bound) {
        if (firstFound.gather(walk.wholes, bound, 1) > 0) {
            mending.offer(MENDED, r, firstFound.tell(0, 1), firstFound.tell(0, 0), NONE);
        }
    }

    /** JOINED is offered for a row of the text by its shortest beginning that leaves a WORD, too. */
    private void offerJoin(int r) {
        for (int cut = 1; cut < text.sizeOf(r); cut++) {
            meant.clear();
            typed.clear();
            for (int k = 0; k < text.sizeOf(r); k++) {
                Row side = k < cut ? meant : typed;
                side.append(text.at(r, k));
            }
            int first = lexicon.numberOf(meant);
            int second = lexicon.numberOf(typed);
            if (first != NONE && second != NONE) {
                mending.offer(JOINED, r, slips.kindPrice(JOINS), first, second);
                return;
            }
        }
    }

    private boolean isThing(int what, int n) {
        switch (what) {
            case NOTHING: case PRICE_ROW: return true;
            case LETTER_ROW: case TRUTHS: return n >= 0 && n < lexicon.words.size;
            case STATE: return n >= 0 && n < walk.met.size;
            default: return false;
        }
    }

    private void layLetters(int tray, int w) {
        for (int k = 0; k < lexicon.words.sizeOf(w); k++) {
            trays.lay(tray, lexicon.words.at(w, k));
        }
    }

    private void layState(int tray, int i) {
        for (int j = 0; j < walk.met.places; j++) {
            trays.lay(tray, walk.met.stateAt(i, j));
        }
    }

    private void layPrices(int tray) {
        for (int kind = SWAP; kind <= HALVED; kind++) {
            trays.lay(tray, slips.kindPrice(kind));
        }
    }

    private void layTruths(int tray, int w) {
        for (int letter = 0; letter < LETTERS; letter++) {
            int truth = 0;
            for (int k = 0; k < lexicon.words.sizeOf(w); k++) {
                if (lexicon.words.at(w, k) == letter) {
                    truth = 1;
                }
            }
            trays.lay(tray, truth);
        }
    }

    /** A ROW of LETTERS (0 for a .. 25). */
    private static final class Row {
        private final int[] letters = new int[ROW];
        private int size;

        private void clear() {
            size = 0;
        }

        /** Whether there was room for it. */
        private boolean append(int letter) {
            if (size < 0 || size >= letters.length) {
                return false;
            }
            letters[size] = letter;
            size++;
            return true;
        }

        /** NONE: there is no such place. */
        private int at(int place) {
            return place >= 0 && place < size && place < letters.length ? letters[place] : NONE;
        }
    }

    /** Several ROWS of LETTERS, in one array. */
    private static final class Rows {
        private final int[] letters;
        private final int[] sizes;
        private int size;

        private Rows(int most) {
            int room = Math.max(most, 0);
            letters = new int[room * ROW];
            sizes = new int[room];
        }

        private void clear() {
            size = 0;
        }

        private boolean isFull() {
            return size >= sizes.length;
        }

        private int sizeOf(int r) {
            return r >= 0 && r < size && r < sizes.length ? sizes[r] : 0;
        }

        /** NONE: there is no such place. */
        private int at(int r, int place) {
            if (r < 0 || r >= size || r >= sizes.length || place < 0 || place >= sizes[r]) {
                return NONE;
            }
            int cell = r * ROW + place;
            return cell >= 0 && cell < letters.length ? letters[cell] : NONE;
        }

        private void copyTo(int r, Row into) {
            into.clear();
            for (int k = 0; k < sizeOf(r); k++) {
                into.append(at(r, k));
            }
        }

        private void append(Row row) {
            insert(size, row);
        }

        private void insert(int r, Row row) {
            if (r < 0 || r > size || isFull()) {
                return;
            }
            System.arraycopy(letters, r * ROW, letters, (r + 1) * ROW, (size - r) * ROW);
            System.arraycopy(sizes, r, sizes, r + 1, size - r);
            System.arraycopy(row.letters, 0, letters, r * ROW, ROW);
            sizes[r] = row.size;
            size++;
        }

        private void remove(int r) {
            if (r < 0 || r >= size || size > sizes.length) {
                return;
            }
            int behind = size - r - 1;
            System.arraycopy(letters, (r + 1) * ROW, letters, r * ROW, behind * ROW);
            System.arraycopy(sizes, r + 1, sizes, r, behind);
            size--;
        }

        /** Below 0, 0, above 0: row r stands ahead of the other one, is the same, stands behind. */
        private int order(int r, Row other) {
            for (int k = 0; k < ROW; k++) {
                // NONE behind the last letter is less than each letter: a beginning stands first.
                int difference = at(r, k) - other.at(k);
                if (difference != 0) {
                    return difference;
                }
            }
            return 0;
        }

        /** How many first LETTERS row r has in common with the row before; NONE: it is the first. */
        private int shared(int r) {
            if (r < 1) {
                return NONE;
            }
            int k = 0;
            while (k < sizeOf(r) && at(r, k) == at(r - 1, k)) {
                k++;
            }
            return k;
        }

        /** Whether there is a row r and all of it stands in the other one from a place on. */
        private boolean standsIn(int r, Row other, int place) {
            if (r < 0 || r >= size || r >= sizes.length || place < 0 || place + sizes[r] > other.size) {
                return false;
            }
            for (int k = 0; k < sizes[r] && k < ROW; k++) {
                int here = r * ROW + k;
                int there = place + k;
                if (here >= letters.length || there >= other.letters.length
                        || letters[here] != other.letters[there]) {
                    return false;
                }
            }
            return true;
        }
    }

    /** THE TAPE. What begins with take reads it and empties it. */
    private static final class Tape {
        private final int[] bytes = new int[TAPE];
        private int size;

        private int append(int n, long all) {
            if (n < 1 || n > 8) {
                return BAD;
            }
            if (size < 0 || size + n > bytes.length) {
                return FULL;
            }
            for (int k = 0; k < n; k++) {
                bytes[size + k] = (int) (all >>> (8 * k)) & 255;
            }
            size += n;
            return size;
        }

        /** Whether THE TAPE has a ROW. */
        private boolean takeRow(Row into) {
            int end = size;
            size = 0;
            return read(0, end, ROW, into);
        }

        /** Whether THE TAPE has two rows of so many LETTERS at most, = between them. */
        private boolean takeTwo(int most, Row first, Row second) {
            int end = size;
            size = 0;
            int middle = seek('=', 0, end);
            return read(0, middle, most, first) && read(middle + 1, end, most, second);
        }

        /** Whether THE TAPE has a text; the row is only for use on the way. */
        private boolean takeText(Rows into, Row row) {
            int end = size;
            size = 0;
            into.clear();
            int from = 0;
            for (int k = 0; k < TEXT && from <= end; k++) {
                int to = seek(' ', from, end);
                if (!read(from, to, ROW, row)) {
                    return false;
                }
                into.append(row);
                from = to + 1;
            }
            return from > end;
        }

        /** The first place of a sign; the end: there is none. */
        private int seek(char sign, int from, int end) {
            for (int k = from; k < end; k++) {
                if (k >= 0 && k < bytes.length && bytes[k] == sign) {
                    return k;
                }
            }
            return end;
        }

        /** Whether there are 1 to so many LETTERS between two places, and nothing else. */
        private boolean read(int from, int to, int most, Row into) {
            into.clear();
            if (from < 0 || to > bytes.length || to - from < 1 || to - from > most) {
                return false;
            }
            for (int k = from; k < to; k++) {
                int letter = bytes[k] - 'a';
                if (letter < 0 || letter >= LETTERS || !into.append(letter)) {
                    return false;
                }
            }
            return true;
        }
    }

    /** THE LEXICON and THE MODEL. THE TREE's NODES follow from the WORDS, as these are sorted. */
    private static final class Lexicon {
        private final Rows words = new Rows(WORDS);
        private final int[] counts = new int[WORDS];
        private int weight;

        /** How many WORDS stand ahead of a row. */
        private int place(Row row) {
            int place = 0;
            for (int step = 128; step > 0; step /= 2) {
                int next = place + step;
                if (next <= words.size && words.order(next - 1, row) < 0) {
                    place = next;
                }
            }
            return place;
        }

        private int numberOf(Row row) {
            int w = place(row);
            return w < words.size && words.order(w, row) == 0 ? w : NONE;
        }

        private int countOf(int w) {
            return w >= 0 && w < counts.length ? counts[w] : 0;
        }

        private int grow(Row row, int more) {
            int known = numberOf(row);
            if (known >= 0 && known < counts.length) {
                counts[known] = Math.min(counts[known] + more, MOST_COUNT);
                return counts[known];
            }
            int w = place(row);
            if (words.isFull() || w < 0 || w > words.size || w >= counts.length) {
                return FULL;
            }
            System.arraycopy(counts, w, counts, w + 1, words.size - w);
            counts[w] = more;
            words.insert(w, row);
            return more;
        }

        private int remove(Row row) {
            int w = numberOf(row);
            if (w < 0 || w >= counts.length) {
                return 0;
            }
            int had = counts[w];
            System.arraycopy(counts, w + 1, counts, w, words.size - w - 1);
            words.remove(w);
            return had;
        }

        private int nodes() {
            int sum = 0;
            for (int w = 0; w < words.size; w++) {
                sum += words.sizeOf(w) - words.shared(w);
            }
            return sum;
        }

        private int share(int w) {
            return (int) ((float) weight / 1000f * (float) countOf(w));
        }
    }

    /** What SLIPS take and cost. */
    private static final class Slips {
        private static final int SOUND_ROW = 3;
        private static final int[] MEANT_TAKEN = {1, 1, 1, 0, 2, 1, 2};
        private static final int[] TYPED_TAKEN = {1, 1, 0, 1, 2, 2, 1};

        private final int[] kinds = {0, 100, 100, 100, 100, 100, 100, 0, 60, 60};
        /** Prices by LETTERS; 0: there is none. */
        private final int[] swaps = new int[LETTERS * LETTERS];
        private final int[] leftsOut = new int[LETTERS];
        private final int[] putsIn = new int[LETTERS];
        private final Rows firsts = new Rows(SOUNDS);
        private final Rows seconds = new Rows(SOUNDS);
        private final int[] sounds = new int[SOUNDS];

        private int kindPrice(int kind) {
            return kind >= 0 && kind < kinds.length ? kinds[kind] : 0;
        }

        private int setKind(int kind, int v) {
            if (v == 0 || kind < SWAP || kind == SOUND || kind >= kinds.length) {
                return BAD;
            }
            int before = kinds[kind];
            kinds[kind] = v;
            return before;
        }

        private int setByLetters(int kind, int a, int b, int v) {
            if (a < 0 || a >= LETTERS) {
                return BAD;
            }
            switch (kind) {
                case SWAP:
                    return b < 0 || b >= LETTERS || a == b ? BAD : exchange(swaps, a * LETTERS + b, v);
                case LEFT_OUT: return exchange(leftsOut, a, v);
                case PUT_IN: return exchange(putsIn, a, v);
                default: return BAD;
            }
        }

        private static int exchange(int[] prices, int cell, int v) {
            if (cell < 0 || cell >= prices.length) {
                return BAD;
            }
            int before = prices[cell];
            prices[cell] = v;
            return before;
        }

        /** The prices of the six KINDS by how often there were; false: none was. */
        private boolean setByCounts(int[] counts) {
            int all = 0;
            for (int kind = SWAP; kind <= HALVED && kind < counts.length; kind++) {
                all += counts[kind];
            }
            if (all <= 0) {
                return false;
            }
            for (int kind = SWAP; kind <= HALVED && kind < counts.length; kind++) {
                kinds[kind] = 200 - 180 * counts[kind] / all;
            }
            return true;
        }

        private int addSound(Row first, Row second, int v) {
            int k = firsts.size;
            if (firsts.isFull() || seconds.isFull() || k < 0 || k >= sounds.length) {
                return FULL;
            }
            firsts.append(first);
            seconds.append(second);
            sounds[k] = v;
            return k;
        }

        /** How many codes there are: those of KINDS ahead of SOUNDS, and those of SOUNDS. */
        private int codes() {
            return SOUND + firsts.size;
        }

        private int meantTaken(int code) {
            return code >= 0 && code < MEANT_TAKEN.length ? MEANT_TAKEN[code] : firsts.sizeOf(code - SOUND);
        }

        private int typedTaken(int code) {
            return code >= 0 && code < TYPED_TAKEN.length ? TYPED_TAKEN[code] : seconds.sizeOf(code - SOUND);
        }

        /** Whether a SLIP may stand at a place of MEANT, whatever TYPED has. */
        private boolean mayStand(int code, Row meant, int i) {
            return code < SOUND || firsts.standsIn(code - SOUND, meant, i);
        }

        /** The price of a SLIP at these places of MEANT and TYPED; NONE: it does not stand there. */
        private int priceAt(int code, Row meant, int i, Row typed, int j) {
            int a = meant.at(i);
            int b = typed.at(j);
            boolean equal = a != NONE && a == b;
            switch (code) {
                case SAME: return equal ? 0 : NONE;
                case SWAP:
                    return a == NONE || b == NONE || equal
                            ? NONE : byLetters(swaps, a * LETTERS + b, kinds[SWAP]);
                case LEFT_OUT: return a == NONE ? NONE : byLetters(leftsOut, a, kinds[LEFT_OUT]);
                case PUT_IN: return b == NONE ? NONE : byLetters(putsIn, b, kinds[PUT_IN]);
                case TURNED:
                    return a != NONE && b != NONE && !equal && meant.at(i + 1) == b && typed.at(j + 1) == a
                            ? kinds[TURNED] : NONE;
                case DOUBLED: return equal && typed.at(j + 1) == a ? kinds[DOUBLED] : NONE;
                case HALVED: return equal && meant.at(i + 1) == a ? kinds[HALVED] : NONE;
                default:
                    return firsts.standsIn(code - SOUND, meant, i) && seconds.standsIn(code - SOUND, typed, j)
                            ? soundPrice(code - SOUND) : NONE;
            }
        }

        private static int byLetters(int[] prices, int cell, int otherwise) {
            int own = cell >= 0 && cell < prices.length ? prices[cell] : 0;
            return own > 0 ? own : otherwise;
        }

        private int soundPrice(int k) {
            return k >= 0 && k < sounds.length ? sounds[k] : NONE;
        }
    }

    /** THE WAY of two rows, and the table by which it is looked for. */
    private static final class Way {
        /** Each SLIP takes a LETTER at least. */
        private static final int MOST = 2 * ROW;

        private final Slips slips;
        /** At i * PLACES + j the least sum for what stands from i on in MEANT, from j on in TYPED. */
        private final int[] sums = new int[PLACES * PLACES];
        private final int[] codes = new int[MOST];
        private final int[] prices = new int[MOST];
        private final int[] meantPlaces = new int[MOST];
        private final int[] typedPlaces = new int[MOST];
        private int size;

        private Way(Slips slips) {
            this.slips = slips;
        }

        /** The DISTANCE. */
        private int measure(Row meant, Row typed) {
            for (int i = meant.size; i >= 0; i--) {
                for (int j = typed.size; j >= 0; j--) {
                    int cell = i * PLACES + j;
                    if (cell < sums.length) {
                        sums[cell] = leastFrom(meant, i, typed, j);
                    }
                }
            }
            return sums[0];
        }

        private int leastFrom(Row meant, int i, Row typed, int j) {
            if (i == meant.size && j == typed.size) {
                return 0;
            }
            int least = FAR;
            for (int code = 0; code < slips.codes(); code++) {
                least = Math.min(least, sumBy(code, meant, i, typed, j));
            }
            return least;
        }

        /** The least sum of what begins with a SLIP at these places; FAR: it does not stand there. */
        private int sumBy(int code, Row meant, int i, Row typed, int j) {
            int price = slips.priceAt(code, meant, i, typed, j);
            int cell = (i + slips.meantTaken(code)) * PLACES + j + slips.typedTaken(code);
            return price == NONE || cell < 0 || cell >= sums.length ? FAR : price + sums[cell];
        }

        /** THE WAY of the rows that have just been measured. */
        private void trace(Row meant, Row typed) {
            size = 0;
            int i = 0;
            int j = 0;
            while (size < MOST && (i < meant.size || j < typed.size)) {
                int code = firstCode(meant, i, typed, j);
                codes[size] = code;
                prices[size] = slips.priceAt(code, meant, i, typed, j);
                meantPlaces[size] = i;
                typedPlaces[size] = j;
                size++;
                i += slips.meantTaken(code);
                j += slips.typedTaken(code);
            }
        }

        /** The least code of those that a WAY of the least sum may begin with at these places. */
        private int firstCode(Row meant, int i, Row typed, int j) {
            int best = 0;
            for (int code = 1; code < slips.codes(); code++) {
                if (sumBy(code, meant, i, typed, j) < sumBy(best, meant, i, typed, j)) {
                    best = code;
                }
            }
            return best;
        }

        /** NONE: there are not so many SLIPS. */
        private int codeAt(int i) {
            return i >= 0 && i < size && i < codes.length ? codes[i] : NONE;
        }

        private int tell(int i, int what) {
            int code = codeAt(i);
            if (code == NONE) {
                return NONE;
            }
            switch (what) {
                case 0: return Math.min(code, SOUND);
                case 1: return prices[i];
                case 2: return meantPlaces[i];
                case 3: return typedPlaces[i];
                default: return code < SOUND ? NONE : code - SOUND;
            }
        }
    }

    /** THE WALK: WORDS by their numbers meet THE TREE's NODES in its order. */
    private static final class Walk {
        private final Lexicon lexicon;
        private final Slips slips;
        private final Met met = new Met();
        /** The WORD in hand. */
        private final Row meant = new Row();
        /** At depth * PLACES + j place j of the STATE of its beginning of so many LETTERS. */
        private final int[] states = new int[PLACES * PLACES];
        /** By depth: the least number in that STATE. */
        private final int[] leasts = new int[PLACES];
        /** By depth: the least DISTANCE of that beginning and of those before it. */
        private final int[] bests = new int[PLACES];
        /** By WORD, as far as the BOUND asks for it: its DISTANCE (FAR: it was not MET). */
        private final int[] wholes = new int[WORDS];
        /** By WORD, as far as the BOUND asks for it: the least DISTANCE of its beginnings. */
        private final int[] begun = new int[WORDS];

        private Walk(Lexicon lexicon, Slips slips) {
            this.lexicon = lexicon;
            this.slips = slips;
        }

        /** Kept: the NODES that are MET can be told of later. */
        private void go(Row typed, int bound, boolean kept) {
            if (kept) {
                met.clear(typed.size + 1);
            }
            int cut = PLACES; // how deep the NODE is that is LEFT on the way to the WORD in hand
            for (int w = 0; w < lexicon.words.size && w < wholes.length && w < begun.length; w++) {
                lexicon.words.copyTo(w, meant);
                int shared = lexicon.words.shared(w);
                if (cut > shared) {
                    cut = descend(shared + 1, typed, bound, kept);
                }
                int deepest = Math.min(cut, meant.size);
                int cell = deepest * PLACES + typed.size;
                boolean whole = deepest == meant.size && cell >= 0 && cell < states.length;
                wholes[w] = whole ? states[cell] : FAR;
                begun[w] = deepest >= 0 && deepest < bests.length ? bests[deepest] : FAR;
            }
        }

        /** Meets the beginnings of the WORD in hand from a depth on: how deep it was LEFT. */
        private int descend(int from, Row typed, int bound, boolean kept) {
            for (int depth = Math.max(from, 0); depth <= meant.size && depth < PLACES; depth++) {
                fill(depth, typed);
                sumUp(depth, typed);
                boolean left = isLeft(depth, bound);
                if (kept) {
                    met.keep(depth, meant.at(depth - 1), depth == meant.size, left, states);
                }
                if (left) {
                    return depth;
                }
            }
            return PLACES;
        }

        /** The STATE at a depth, from those above it. */
        private void fill(int depth, Row typed) {
            for (int j = 0; j <= typed.size; j++) {
                int cell = depth * PLACES + j;
                if (cell >= 0 && cell < states.length) {
                    states[cell] = cell == 0 ? 0 : FAR;
                }
            }
            for (int code = 0; code < slips.codes(); code++) {
                if (code != PUT_IN) {
                    reach(code, depth, typed);
                }
            }
            // This one goes on from the STATE itself: it wants all the others in it.
            reach(PUT_IN, depth, typed);
        }

        /** What SLIPS of a code that end at a depth bring into its STATE. */
        private void reach(int code, int depth, Row typed) {
            int i = depth - slips.meantTaken(code);
            if (i < 0 || !slips.mayStand(code, meant, i)) {
                return;
            }
            int taken = slips.typedTaken(code);
            for (int j = 0; j + taken <= typed.size; j++) {
                int from = i * PLACES + j;
                int to = depth * PLACES + j + taken;
                int price = slips.priceAt(code, meant, i, typed, j);
                if (price != NONE && from >= 0 && from < states.length && to >= 0 && to < states.length
                        && states[from] + price < states[to]) {
                    states[to] = states[from] + price;
                }
            }
        }

        private void sumUp(int depth, Row typed) {
            int least = FAR;
            int last = FAR;
            for (int j = 0; j <= typed.size; j++) {
                int cell = depth * PLACES + j;
                last = cell >= 0 && cell < states.length ? states[cell] : FAR;
                least = Math.min(least, last);
            }
            if (depth >= 0 && depth < leasts.length && depth < bests.length) {
                leasts[depth] = least;
                bests[depth] = depth > 0 ? Math.min(last, bests[depth - 1]) : last;
            }
        }

        /** A SLIP takes three LETTERS of MEANT at most: it may go on from two NODES above. */
        private boolean isLeft(int depth, int bound) {
            for (int d = Math.max(depth - 2, 0); d <= depth && d < leasts.length; d++) {
                if (leasts[d] <= bound) {
                    return false;
                }
            }
            return true;
        }
    }

    /** The NODES that the latest near(), complete() MET, as they were then. */
    private static final class Met {
        private final int[] depths = new int[NODES];
        private final int[] letters = new int[NODES];
        private final boolean[] areWords = new boolean[NODES];
        private final boolean[] areLeft = new boolean[NODES];
        private final int[] states = new int[NODES * PLACES];
        private int size;
        private int left;
        /** How many places each STATE has. */
        private int places;

        private void clear(int width) {
            size = 0;
            left = 0;
            places = Math.max(0, Math.min(width, PLACES));
        }

        private void keep(int depth, int letter, boolean isWord, boolean isLeft, int[] path) {
            if (size < 0 || size >= NODES || depth < 0 || (depth + 1) * PLACES > path.length) {
                return;
            }
            depths[size] = depth;
            letters[size] = letter;
            areWords[size] = isWord;
            areLeft[size] = isLeft;
            System.arraycopy(path, depth * PLACES, states, size * PLACES, places);
            size++;
            if (isLeft) {
                left++;
            }
        }

        private int tell(int i, int what) {
            if (i < 0 || i >= size || i >= NODES) {
                return NONE;
            }
            switch (what) {
                case 0: return depths[i];
                case 1: return letters[i];
                case 2: return least(i);
                case 3: return areLeft[i] ? 1 : 0;
                case 4: return areWords[i] ? 1 : 0;
                default: return stateAt(i, what - 5);
            }
        }

        private int least(int i) {
            int least = FAR;
            for (int j = 0; j < places; j++) {
                least = Math.min(least, stateAt(i, j));
            }
            return least;
        }

        /** NONE: there is no such place. */
        private int stateAt(int i, int j) {
            if (i < 0 || i >= size || j < 0 || j >= places) {
                return NONE;
            }
            int cell = i * PLACES + j;
            return cell >= 0 && cell < states.length ? states[cell] : NONE;
        }
    }

    /** WORDS in RANK's order. */
    private static final class Found {
        private final Lexicon lexicon;
        private final int[] numbers = new int[WORDS];
        private final int[] distances = new int[WORDS];
        private final int[] shares = new int[WORDS];
        private int size;

        private Found(Lexicon lexicon) {
            this.lexicon = lexicon;
        }

        /** The first of the WORDS whose DISTANCE is at most the BOUND: how many. */
        private int gather(int[] byWord, int bound, int most) {
            size = 0;
            for (int w = 0; w < lexicon.words.size && w < byWord.length; w++) {
                if (byWord[w] <= bound) {
                    lay(w, byWord[w], Math.min(most, WORDS));
                }
            }
            return size;
        }

        private void lay(int w, int distance, int most) {
            int share = lexicon.share(w);
            int place = size;
            while (place > 0 && isAhead(w, distance - share, place - 1)) {
                move(place - 1, place, most);
                place--;
            }
            if (place < most && place < numbers.length) {
                numbers[place] = w;
                distances[place] = distance;
                shares[place] = share;
                size = Math.min(size + 1, most);
            }
        }

        /** WORDS are laid by their numbers: of two that are equal the earlier one is there. */
        private boolean isAhead(int w, int rank, int place) {
            if (place < 0 || place >= numbers.length) {
                return false;
            }
            int other = distances[place] - shares[place];
            return rank < other || rank == other && lexicon.countOf(w) > lexicon.countOf(numbers[place]);
        }

        private void move(int from, int to, int most) {
            if (from >= 0 && to >= 0 && to < most && from < numbers.length && to < numbers.length) {
                numbers[to] = numbers[from];
                distances[to] = distances[from];
                shares[to] = shares[from];
            }
        }

        private int tell(int i, int what) {
            if (i < 0 || i >= size || i >= numbers.length) {
                return NONE;
            }
            if (what == 0) {
                return numbers[i];
            }
            return what == 1 ? distances[i] : shares[i];
        }
    }

    /** The PARTS that a text may be taken apart into, and THE MENDING. */
    private static final class Mending {
        /** At kind * TEXT + row, what a PART of this KIND from this row on costs; NONE: there is none. */
        private final int[] prices = new int[PART_KINDS * TEXT];
        private final int[] firsts = new int[PART_KINDS * TEXT];
        private final int[] seconds = new int[PART_KINDS * TEXT];
        /** From this row on: the least sum, and the KIND of the first PART. */
        private final int[] sums = new int[TEXT + 1];
        private final int[] kinds = new int[TEXT + 1];
        /** The row that a PART of THE MENDING begins with. */
        private final int[] starts = new int[TEXT];
        private int rows;
        private int size;

        private void clear(int howMany) {
            rows = Math.max(0, Math.min(howMany, TEXT));
            size = 0;
            Arrays.fill(prices, NONE);
            Arrays.fill(sums, 0);
        }

        private void offer(int kind, int r, int price, int first, int second) {
            int cell = cellOf(kind, r);
            if (cell != NONE) {
                prices[cell] = price;
                firsts[cell] = first;
                seconds[cell] = second;
            }
        }

        private boolean offers(int kind, int r) {
            int cell = cellOf(kind, r);
            return cell != NONE && prices[cell] != NONE;
        }

        private int cellOf(int kind, int r) {
            return kind >= 0 && kind < PART_KINDS && r >= 0 && r < rows && r < TEXT ? kind * TEXT + r : NONE;
        }

        /** Looks for THE MENDING: how many PARTS it has. */
        private int choose() {
            for (int r = rows - 1; r >= 0; r--) {
                int kind = bestKind(r);
                kinds[r] = kind;
                sums[r] = sumBy(kind, r);
            }
            int r = 0;
            while (size < TEXT && r < rows) {
                starts[size] = r;
                size++;
                r += taken(kinds[r]);
            }
            return size;
        }

        /** The least KIND of those that the least sum may begin with at a row. */
        private int bestKind(int r) {
            int best = NONE;
            for (int kind = 0; kind < PART_KINDS; kind++) {
                if (offers(kind, r) && (best == NONE || sumBy(kind, r) < sumBy(best, r))) {
                    best = kind;
                }
            }
            return best;
        }

        private int sumBy(int kind, int r) {
            int cell = cellOf(kind, r);
            int next = r + taken(kind);
            return cell != NONE && next < sums.length ? prices[cell] + sums[next] : 0;
        }

        private static int taken(int kind) {
            return kind == SPLIT ? 2 : 1;
        }

        private int tell(int i, int what) {
            if (i == -1) {
                return what == 1 ? sums[0] : NONE;
            }
            int r = i >= 0 && i < size && i < starts.length ? starts[i] : NONE;
            int kind = r >= 0 && r < kinds.length ? kinds[r] : NONE;
            int cell = cellOf(kind, r);
            if (cell == NONE) {
                return NONE;
            }
            switch (what) {
                case 0: return kind;
                case 1: return prices[cell];
                case 2: return firsts[cell];
                case 3: return seconds[cell];
                default: return taken(kind);
            }
        }
    }

    /** TRAYS with their THINGS, and STATUS. */
    private static final class Trays {
        private static final int NO_SUCH = 1, IS_NOTHING = 10, OTHER_THING = 11, OUTSIDE = 12,
                BELOW_ZERO = 13, NO_FIT = 14, BY_ZERO = 15;
        private static final int COPY_ROW = 6;

        private final int[] things = new int[TRAYS];
        private final int[] sizes = new int[TRAYS];
        /** At tray * LETTERS + n, as no THING has more than LETTERS cells. */
        private final int[] cells = new int[TRAYS * LETTERS];
        private int status;

        private int refuse(int why) {
            status = why;
            return NONE;
        }

        private int done(int answer) {
            status = 0;
            return answer;
        }

        private void clear(int tray, int thing) {
            if (tray >= 0 && tray < TRAYS) {
                things[tray] = thing;
                sizes[tray] = 0;
            }
        }

        private void lay(int tray, int value) {
            if (tray >= 0 && tray < TRAYS && sizes[tray] >= 0 && sizes[tray] < LETTERS) {
                cells[tray * LETTERS + sizes[tray]] = value;
                sizes[tray]++;
            }
        }

        private int work(int tray, int what, int n) {
            if (tray < 0 || tray >= TRAYS || n < -100 || n > 100) {
                return refuse(NO_SUCH);
            }
            switch (what) {
                case 0: return read(tray, LETTER_ROW, n);
                case 1: return read(tray, STATE, n);
                case 2: return read(tray, PRICE_ROW, n);
                case 3: return read(tray, TRUTHS, n);
                case 4: return n < 0 ? refuse(BELOW_ZERO) : done(n);
                case 5: return copy(tray, n);
                case 6: return layAmongStates(tray);
                case 7: return n == 0 ? refuse(BY_ZERO) : done(1000 / n);
                case 8: return refuse(IS_NOTHING);
                default: return refuse(NO_SUCH);
            }
        }

        /** Why a TRAY's THING can't be taken for one of this kind; 0: it can. */
        private int whyNot(int tray, int thing) {
            if (tray < 0 || tray >= TRAYS) {
                return NO_SUCH;
            }
            if (things[tray] == NOTHING) {
                return IS_NOTHING;
            }
            return things[tray] == thing ? 0 : OTHER_THING;
        }

        private int read(int tray, int thing, int n) {
            int why = whyNot(tray, thing);
            if (why != 0) {
                return refuse(why);
            }
            int size = Math.min(sizes[tray], LETTERS);
            return n < 0 || n >= size ? refuse(OUTSIDE) : done(cells[tray * LETTERS + n]);
        }

        private int copy(int tray, int n) {
            int why = whyNot(tray, LETTER_ROW);
            if (why != 0) {
                return refuse(why);
            }
            int size = Math.min(sizes[tray], LETTERS);
            if (n < 0 || 1 + n > size || n + n > COPY_ROW) {
                return refuse(OUTSIDE);
            }
            int sum = 0;
            for (int k = 1; k <= n; k++) {
                sum += 'a' + cells[tray * LETTERS + k];
            }
            return done(sum);
        }

        private int layAmongStates(int tray) {
            int why = whyNot(tray, STATE);
            if (why == IS_NOTHING) {
                return done(0);
            }
            return why == 0 ? done(sizes[tray]) : refuse(NO_FIT);
        }
    }
}
