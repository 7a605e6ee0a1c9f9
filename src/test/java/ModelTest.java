import java.util.ArrayList;
import java.util.List;

/**
 * Long mixed runs, each answer held against a slow model that follows the words of the section
 * "Terms": every span of the stream is cut in every way. The runs are the same every time.
 */
public final class ModelTest {
    private static final int RUNS = 40;
    private static final int CALLS = 512;

    private static final Checks checks = new Checks();
    private static long seed = 20261115L;

    private final StreamWatcher watcher = new StreamWatcher();
    private final List<List<int[]>> patterns = new ArrayList<>();
    private final List<Integer> stream = new ArrayList<>();

    private ModelTest() {
        for (int p = 0; p < 4; p++) {
            patterns.add(new ArrayList<>());
        }
    }

    public static void main(String[] args) {
        for (int run = 1; run <= RUNS; run++) {
            new ModelTest().run(run);
        }
        checks.end();
    }

    private static int below(int bound) {
        seed = seed * 6364136223846793005L + 1442695040888963407L;
        return (int) ((seed >>> 33) % bound);
    }

    /** Mostly 0 .. 3, now and then something beside it. */
    private static int zeroToThree() {
        int[] beside = {-1, 4, Integer.MIN_VALUE, Integer.MAX_VALUE};
        return below(25) == 0 ? beside[below(4)] : below(4);
    }

    private void run(int run) {
        // Few symbols make long matches, and rare resets let the stream become full.
        int symbols = 1 + below(4);
        boolean fills = run % 2 == 0;
        for (int call = 1; call <= CALLS; call++) {
            String name = "run " + run + ", call " + call;
            int kind = below(100);
            if (kind < 14) {
                item(name, zeroToThree(), below(20) == 0 ? 16 * below(2) : 1 + below(15), zeroToThree());
            } else if (kind < 22) {
                drop(name, zeroToThree());
            } else if (kind < (fills ? 60 : 40)) {
                push(name, below(30) == 0 ? zeroToThree() : below(symbols));
            } else if (kind == 99 && below(fills ? 8 : 1) == 0) {
                watcher.reset();
                stream.clear();
            } else {
                ask(name, zeroToThree(), below(stream.size() + 3) - 1);
            }
        }
    }

    private void item(String name, int p, int set, int count) {
        int want;
        if (!isPattern(p) || set < 1 || set > 15 || count < 0 || count > 3) {
            want = -1;
        } else if (patterns.get(p).size() == 6) {
            want = -2;
        } else {
            patterns.get(p).add(new int[] {set, count});
            want = patterns.get(p).size();
        }
        checks.due(name + " item(" + p + ", " + set + ", " + count + ")", watcher.item(p, set, count), want);
    }

    private void drop(String name, int p) {
        int want = -1;
        if (isPattern(p) && !patterns.get(p).isEmpty()) {
            patterns.get(p).remove(patterns.get(p).size() - 1);
            want = patterns.get(p).size();
        }
        checks.due(name + " drop(" + p + ")", watcher.drop(p), want);
    }

    private void push(String name, int s) {
        int want;
        if (s < 0 || s > 3) {
            want = -1;
        } else if (stream.size() == 60) {
            want = -2;
        } else {
            stream.add(s);
            want = endingAt(stream.size() - 1);
        }
        checks.due(name + " push(" + s + ")", watcher.push(s), want);
    }

    private void ask(String name, int p, int t) {
        switch (below(10)) {
            case 0 -> checks.due(name + " items(" + p + ")", watcher.items(p), isPattern(p) ? patterns.get(p).size() : -1);
            case 1 -> checks.due(name + " taken()", watcher.taken(), stream.size());
            case 2 -> checks.due(name + " endingAt(" + t + ")", watcher.endingAt(t), endingAt(t));
            case 3 -> checks.due(name + " ends(" + p + ")", watcher.ends(p), ends(p).size());
            case 4 -> checks.due(name + " firstEnd(" + p + ")", watcher.firstEnd(p), ends(p).isEmpty() ? -1 : ends(p).get(0));
            case 5 -> checks.due(name + " earliest(" + p + ", " + t + ")", watcher.earliest(p, t), beginning(p, t, true));
            case 6 -> checks.due(name + " latest(" + p + ", " + t + ")", watcher.latest(p, t), beginning(p, t, false));
            case 7 -> checks.due(name + " longest(" + p + ")", watcher.longest(p), longest(p));
            case 8 -> checks.due(name + " completing(" + p + ")", watcher.completing(p), completing(p));
            default -> checks.due(name + " emptyFits()", watcher.emptyFits(), emptyFits());
        }
    }

    private static boolean isPattern(int p) {
        return p >= 0 && p <= 3;
    }

    private static boolean fitsItem(List<Integer> row, int[] item) {
        for (int s : row) {
            if ((item[0] & 1 << s) == 0) {
                return false;
            }
        }
        return switch (item[1]) {
            case 0 -> row.size() == 1;
            case 1 -> row.size() <= 1;
            case 2 -> true;
            default -> row.size() >= 1;
        };
    }

    private static boolean fits(List<Integer> row, List<int[]> pattern) {
        boolean[] cut = new boolean[row.size() + 1];
        cut[0] = true;
        for (int[] item : pattern) {
            boolean[] next = new boolean[row.size() + 1];
            for (int i = 0; i <= row.size(); i++) {
                for (int j = i; cut[i] && j <= row.size(); j++) {
                    next[j] |= fitsItem(row.subList(i, j), item);
                }
            }
            cut = next;
        }
        return cut[row.size()];
    }

    private List<Integer> beginnings(int p, List<Integer> symbols, int t) {
        List<Integer> found = new ArrayList<>();
        if (isPattern(p) && t >= 0 && t < symbols.size()) {
            for (int from = 0; from <= t; from++) {
                if (fits(symbols.subList(from, t + 1), patterns.get(p))) {
                    found.add(from);
                }
            }
        }
        return found;
    }

    private int endingAt(int t) {
        int mask = 0;
        for (int p = 0; p < 4; p++) {
            mask |= beginnings(p, stream, t).isEmpty() ? 0 : 1 << p;
        }
        return mask;
    }

    private List<Integer> ends(int p) {
        List<Integer> found = new ArrayList<>();
        for (int t = 0; t < stream.size(); t++) {
            if (!beginnings(p, stream, t).isEmpty()) {
                found.add(t);
            }
        }
        return found;
    }

    private int beginning(int p, int t, boolean first) {
        List<Integer> found = beginnings(p, stream, t);
        return found.isEmpty() ? -1 : found.get(first ? 0 : found.size() - 1);
    }

    private int longest(int p) {
        int most = 0;
        for (int t : ends(p)) {
            most = Math.max(most, t - beginning(p, t, true) + 1);
        }
        return most;
    }

    private int completing(int p) {
        int mask = 0;
        for (int s = 0; s < 4; s++) {
            List<Integer> longer = new ArrayList<>(stream);
            longer.add(s);
            mask |= beginnings(p, longer, stream.size()).isEmpty() ? 0 : 1 << s;
        }
        return mask;
    }

    private int emptyFits() {
        int mask = 0;
        for (int p = 0; p < 4; p++) {
            mask |= fits(List.of(), patterns.get(p)) ? 1 << p : 0;
        }
        return mask;
    }
}
