import java.util.ArrayList;
import java.util.List;

/**
 * Runs one test for each sentence of the document and names the sentence where it is broken.
 * Every object a test makes stays within the 512 calls that the document answers for.
 */
final class Sentences {
    static final int ONCE = 0;
    static final int OPTIONAL = 1;
    static final int ANY = 2;
    static final int SOME = 3;
    static final int NONE = -1;
    static final int FULL = -2;
    static final int MOST = 60;

    /** The nearest ones first; then those that a shift, a narrow type or p * 6 would wrap round. */
    private static final int[] NOT_0_TO_3 = {
        -1, 4, 5, -4, 31, 32, 33, 64, -32, 256, 65536, 715827883, Integer.MIN_VALUE, Integer.MIN_VALUE + 1,
        Integer.MAX_VALUE};
    private static final int[] NOT_1_TO_15 = {
        0, 16, 17, -1, -15, 31, 256 + 1, 65536 + 1, Integer.MIN_VALUE, Integer.MIN_VALUE + 1, Integer.MAX_VALUE};

    private final Checks checks = new Checks();
    private String now = "";

    /** A test that throws, or that checks nothing, counts as a wrong one. */
    void sentence(String words, Runnable test) {
        now = words;
        int before = checks.made();
        try {
            test.run();
        } catch (RuntimeException thrown) {
            checks.holds("[" + words + "] without " + thrown, false);
        }
        checks.holds("[" + words + "] has a test", checks.made() > before);
    }

    void due(String call, long got, long want) {
        checks.due("[" + now + "] " + call, got, want);
    }

    /** The object answers every question as its twin does, which was spared the call in question. */
    void same(String after, StreamWatcher x, StreamWatcher twin) {
        List<Integer> got = picture(x);
        List<Integer> want = picture(twin);
        checks.holds("[" + now + "] all is as it was after " + after + ": " + got + " for " + want, got.equals(want));
    }

    void end() {
        checks.end();
    }

    static int[] notZeroToThree() {
        return NOT_0_TO_3.clone();
    }

    static int[] notASet() {
        return NOT_1_TO_15.clone();
    }

    /** What is not a place of a stream of so many symbols. */
    static int[] notAPlace(int taken) {
        return new int[] {
            -1, taken, taken + 1, -taken, -taken - 1, 60, 61, 63, 64, -64, 256, 65536, Integer.MIN_VALUE,
            Integer.MIN_VALUE + 1, Integer.MAX_VALUE};
    }

    /** A watcher whose pattern p has the given items, set and count in turn, and no other has any. */
    static StreamWatcher with(int p, int... setsAndCounts) {
        StreamWatcher x = new StreamWatcher();
        for (int i = 0; i < setsAndCounts.length; i += 2) {
            x.item(p, setsAndCounts[i], setsAndCounts[i + 1]);
        }
        return x;
    }

    static void pushAll(StreamWatcher x, int... symbols) {
        for (int s : symbols) {
            x.push(s);
        }
    }

    static void pushTimes(StreamWatcher x, int s, int times) {
        for (int i = 0; i < times; i++) {
            x.push(s);
        }
    }

    /**
     * Pattern 0 has three items, 1 one, 2 six and 3 one; so many symbols are taken. Each has an
     * item and matches early, so that a wrong number taken for any of them would be seen.
     */
    static StreamWatcher busy(int taken) {
        StreamWatcher x = with(0, 1, ONCE, 2, ANY, 4, ONCE);
        x.item(1, 3, SOME);
        for (int n = 0; n < 6; n++) {
            x.item(2, 15 - n, OPTIONAL);
        }
        x.item(3, 15, SOME);
        int[] symbols = {0, 1, 1, 2, 0, 2, 3, 1};
        for (int t = 0; t < taken; t++) {
            x.push(symbols[t % symbols.length]);
        }
        return x;
    }

    /** The answers to some 160 questions; not to all, as an object has 512 calls. */
    private static List<Integer> picture(StreamWatcher x) {
        List<Integer> answers = new ArrayList<>();
        answers.add(x.taken());
        answers.add(x.emptyFits());
        for (int p = 0; p < 4; p++) {
            answers.add(x.items(p));
            answers.add(x.ends(p));
            answers.add(x.firstEnd(p));
            answers.add(x.longest(p));
            answers.add(x.completing(p));
            for (int t = 3; t < MOST; t += 7) {
                answers.add(x.earliest(p, t));
                answers.add(x.latest(p, t));
            }
        }
        for (int t = -1; t <= MOST; t++) {
            answers.add(x.endingAt(t));
        }
        return answers;
    }
}
