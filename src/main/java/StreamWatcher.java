/** Watches a stream of symbols for several patterns at once. */
public final class StreamWatcher {
    public static final int NONE = -1;
    public static final int FULL = -2;

    private static final int SYMBOLS = 4;
    private static final int PATTERNS = 4;
    private static final int MOST_ITEMS = 6;
    private static final int ALL_ITEMS = PATTERNS * MOST_ITEMS;
    private static final int MOST_TAKEN = 60;
    private static final int GREATEST_SET = 15;

    private static final int ONCE = 0;
    private static final int OPTIONAL = 1;
    private static final int ANY = 2;
    private static final int SOME = 3;

    // Item k of pattern p lies at p * MOST_ITEMS + k, since arrays have one dimension.
    private final int[] sets = new int[ALL_ITEMS];
    private final int[] counts = new int[ALL_ITEMS];
    private final int[] lengths = new int[PATTERNS];
    private final int[] stream = new int[MOST_TAKEN];
    private int size = 0;

    public StreamWatcher() {
    }

    public int item(int p, int set, int count) {
        if (!isPattern(p) || set < 1 || set > GREATEST_SET || count < ONCE || count > SOME) {
            return NONE;
        }
        if (lengths[p] >= MOST_ITEMS) {
            return FULL;
        }
        int at = p * MOST_ITEMS + lengths[p];
        sets[at] = set;
        counts[at] = count;
        lengths[p]++;
        return lengths[p];
    }

    public int drop(int p) {
        if (!isPattern(p) || lengths[p] == 0) {
            return NONE;
        }
        lengths[p]--;
        return lengths[p];
    }

    public int items(int p) {
        return isPattern(p) ? lengths[p] : NONE;
    }

    public int push(int s) {
        if (s < 0 || s >= SYMBOLS) {
            return NONE;
        }
        if (size >= MOST_TAKEN) {
            return FULL;
        }
        stream[size] = s;
        size++;
        return patternsEndingAt(size - 1);
    }

    public void reset() {
        size = 0;
    }

    public int taken() {
        return size;
    }

    public int endingAt(int t) {
        return isPlace(t) ? patternsEndingAt(t) : 0;
    }

    public int ends(int p) {
        if (!isPattern(p)) {
            return 0;
        }
        int number = 0;
        for (int t = 0; t < size; t++) {
            if (beginnings(p, t, stream[t]) != 0L) {
                number++;
            }
        }
        return number;
    }

    public int firstEnd(int p) {
        if (!isPattern(p)) {
            return NONE;
        }
        for (int t = 0; t < size; t++) {
            if (beginnings(p, t, stream[t]) != 0L) {
                return t;
            }
        }
        return NONE;
    }

    public int earliest(int p, int t) {
        if (!isPattern(p) || !isPlace(t)) {
            return NONE;
        }
        long places = beginnings(p, t, stream[t]);
        return leastPlace(places);
    }

    public int latest(int p, int t) {
        if (!isPattern(p) || !isPlace(t)) {
            return NONE;
        }
        long places = beginnings(p, t, stream[t]);
        return greatestPlace(places);
    }

    public int longest(int p) {
        if (!isPattern(p)) {
            return 0;
        }
        int most = 0;
        for (int t = 0; t < size; t++) {
            long places = beginnings(p, t, stream[t]);
            int from = leastPlace(places);
            if (from != NONE && t - from + 1 > most) {
                most = t - from + 1;
            }
        }
        return most;
    }

    public int completing(int p) {
        if (!isPattern(p)) {
            return 0;
        }
        int symbols = 0;
        for (int s = 0; s < SYMBOLS; s++) {
            if (beginnings(p, size, s) != 0L) {
                symbols |= 1 << s;
            }
        }
        return symbols;
    }

    public int emptyFits() {
        int patterns = 0;
        for (int p = 0; p < PATTERNS; p++) {
            if ((unreadStates(p) & 1) != 0) {
                patterns |= 1 << p;
            }
        }
        return patterns;
    }

    private boolean isPattern(int p) {
        return p >= 0 && p < PATTERNS;
    }

    private boolean isPlace(int t) {
        return t >= 0 && t < size;
    }

    private int patternsEndingAt(int t) {
        int patterns = 0;
        for (int p = 0; p < PATTERNS; p++) {
            if (beginnings(p, t, stream[t]) != 0L) {
                patterns |= 1 << p;
            }
        }
        return patterns;
    }

    // The places (bit i for place i) at which a match of p begins that ends at place t, were s the
    // symbol there. The symbol is an argument so that completing can ask about a place not yet
    // taken, even place 60, without touching the stream.
    //
    // The span is read from its end to its beginning, because then one pass meets every beginning.
    // States are a mask: bit k says that a row fitting the first k items, put before what was
    // read, would make a row fitting the whole pattern; so bit 0 says that what was read fits it.
    private long beginnings(int p, int t, int s) {
        int states = unreadStates(p);
        states = statesBefore(p, states, s);
        long places = (states & 1) != 0 ? 1L << t : 0L;
        for (int i = t - 1; i >= 0 && states != 0; i--) {
            states = statesBefore(p, states, stream[i]);
            if ((states & 1) != 0) {
                places |= 1L << i;
            }
        }
        return places;
    }

    private int unreadStates(int p) {
        return withSkips(p, 1 << lengths[p]);
    }

    private int statesBefore(int p, int states, int s) {
        int before = 0;
        for (int k = lengths[p]; k >= 1; k--) {
            int at = p * MOST_ITEMS + k - 1;
            if ((states >> k & 1) != 0 && (sets[at] >> s & 1) != 0) {
                before |= 1 << (k - 1);
                // A row that fits an item of these counts still fits it with one symbol more.
                if (counts[at] == ANY || counts[at] == SOME) {
                    before |= 1 << k;
                }
            }
        }
        return withSkips(p, before);
    }

    // Going from the last item to the first lets one pass skip a whole row of items.
    private int withSkips(int p, int states) {
        int closed = states;
        for (int k = lengths[p]; k >= 1; k--) {
            int count = counts[p * MOST_ITEMS + k - 1];
            if ((closed >> k & 1) != 0 && (count == OPTIONAL || count == ANY)) {
                closed |= 1 << (k - 1);
            }
        }
        return closed;
    }

    private int leastPlace(long places) {
        for (int i = 0; i < MOST_TAKEN; i++) {
            if ((places >> i & 1L) != 0L) {
                return i;
            }
        }
        return NONE;
    }

    private int greatestPlace(long places) {
        for (int i = MOST_TAKEN - 1; i >= 0; i--) {
            if ((places >> i & 1L) != 0L) {
                return i;
            }
        }
        return NONE;
    }
}
