/** One method for each promise of the document: ordinary inputs, named edges, wrong inputs. */
public final class PromiseTest {
    private static final int ONCE = 0;
    private static final int OPTIONAL = 1;
    private static final int ANY = 2;
    private static final int SOME = 3;
    private static final int NONE = -1;
    private static final int FULL = -2;
    private static final int[] NOT_0_TO_3 = {-1, 4, 5, 31, 32, 100, -4, Integer.MIN_VALUE, Integer.MAX_VALUE};

    private static final Checks checks = new Checks();

    public static void main(String[] args) {
        newObject();
        item();
        drop();
        items();
        push();
        reset();
        taken();
        endingAt();
        ends();
        firstEnd();
        earliest();
        latest();
        longest();
        completing();
        emptyFits();
        orderAndLimits();
        checks.end();
    }

    private static void due(int promise, String what, long got, long want) {
        checks.due("promise " + promise + ": " + what, got, want);
    }

    private static void pushAll(StreamWatcher x, int... symbols) {
        for (int s : symbols) {
            x.push(s);
        }
    }

    /** A watcher whose pattern 0 has the given items, set and count in turn. */
    private static StreamWatcher with(int... setsAndCounts) {
        StreamWatcher x = new StreamWatcher();
        for (int i = 0; i < setsAndCounts.length; i += 2) {
            x.item(0, setsAndCounts[i], setsAndCounts[i + 1]);
        }
        return x;
    }

    private static void newObject() {
        StreamWatcher x = new StreamWatcher();
        due(1, "taken()", x.taken(), 0);
        due(1, "emptyFits()", x.emptyFits(), 15);
        due(1, "endingAt(0)", x.endingAt(0), 0);
        for (int p = 0; p < 4; p++) {
            due(1, "items", x.items(p), 0);
            due(1, "ends", x.ends(p), 0);
            due(1, "firstEnd", x.firstEnd(p), NONE);
            due(1, "earliest", x.earliest(p, 0), NONE);
            due(1, "latest", x.latest(p, 0), NONE);
            due(1, "longest", x.longest(p), 0);
            due(1, "completing", x.completing(p), 0);
            due(1, "drop", x.drop(p), NONE);
        }
        due(1, "first push", x.push(2), 0);
        StreamWatcher other = new StreamWatcher();
        due(1, "taken() beside another object", other.taken(), 0);
    }

    private static void item() {
        StreamWatcher x = new StreamWatcher();
        for (int p : NOT_0_TO_3) {
            due(2, "item(" + p + ", 1, 0)", x.item(p, 1, 0), NONE);
        }
        for (int set : new int[] {0, 16, 17, -1, Integer.MIN_VALUE, Integer.MAX_VALUE}) {
            due(2, "item(0, " + set + ", 0)", x.item(0, set, 0), NONE);
        }
        for (int count : NOT_0_TO_3) {
            due(2, "item(0, 1, " + count + ")", x.item(0, 1, count), NONE);
        }
        due(2, "items(0) after refusals", x.items(0), 0);
        for (int p = 0; p < 4; p++) {
            for (int n = 1; n <= 6; n++) {
                due(2, "item " + n, x.item(p, n % 2 == 0 ? 1 : 15, n % 4), n);
            }
            due(2, "a seventh item", x.item(p, 1, 0), FULL);
            due(2, "items after FULL", x.items(p), 6);
        }
        StreamWatcher row = with(1, ONCE, 2, ONCE, 4, ONCE, 8, ONCE, 4, ONCE, 2, ONCE);
        due(2, "the seventh", row.item(0, 1, ANY), FULL);
        pushAll(row, 0, 1, 2, 3, 2);
        due(2, "push of the sixth of six items", row.push(1), 1);
        due(2, "push after it", row.push(0), 0);
        due(2, "length of the match", row.longest(0), 6);
        eachCount();
    }

    /** Pattern: symbol 0, then symbol 1 as often as the count lets, then symbol 2. */
    private static void eachCount() {
        int[] least = {1, 0, 0, 1};
        int[] most = {1, 1, 60, 60};
        for (int count = 0; count < 4; count++) {
            StreamWatcher x = with(1, ONCE, 2, count, 4, ONCE);
            for (int number = 0; number < 10; number++) {
                x.reset();
                x.push(0);
                for (int i = 0; i < number; i++) {
                    x.push(1);
                }
                int want = number >= least[count] && number <= most[count] ? 1 : 0;
                due(2, "count " + count + " with " + number, x.push(2), want);
            }
        }
        for (int set = 1; set <= 15; set++) {
            StreamWatcher x = with(set, ONCE);
            for (int s = 0; s < 4; s++) {
                due(2, "set " + set + ", symbol " + s, x.push(s), set >> s & 1);
            }
        }
    }

    private static void drop() {
        StreamWatcher x = with(1, ONCE, 2, ONCE, 4, ONCE);
        x.item(1, 8, ONCE);
        for (int p : NOT_0_TO_3) {
            due(3, "drop(" + p + ")", x.drop(p), NONE);
        }
        pushAll(x, 0, 1, 2);
        due(3, "endingAt(2)", x.endingAt(2), 1);
        due(3, "drop(0)", x.drop(0), 2);
        due(3, "endingAt(2) after drop", x.endingAt(2), 0);
        due(3, "endingAt(1) after drop", x.endingAt(1), 1);
        due(3, "item after drop", x.item(0, 4, ANY), 3);
        due(3, "endingAt(1) after item", x.endingAt(1), 1);
        due(3, "endingAt(2) after item", x.endingAt(2), 1);
        due(3, "drop(0)", x.drop(0), 2);
        due(3, "drop(0)", x.drop(0), 1);
        due(3, "drop(0)", x.drop(0), 0);
        due(3, "drop(0) of none", x.drop(0), NONE);
        due(3, "items(0)", x.items(0), 0);
        due(3, "items(1)", x.items(1), 1);
        due(3, "taken()", x.taken(), 3);
    }

    private static void items() {
        StreamWatcher x = new StreamWatcher();
        for (int p = 0; p < 4; p++) {
            for (int n = 0; n <= p; n++) {
                x.item(p, 3, SOME);
            }
        }
        for (int p = 0; p < 4; p++) {
            due(4, "items(" + p + ")", x.items(p), p + 1);
        }
        for (int p : NOT_0_TO_3) {
            due(4, "items(" + p + ")", x.items(p), NONE);
        }
        x.drop(3);
        due(4, "items(3) after drop", x.items(3), 3);
        x.reset();
        due(4, "items(3) after reset", x.items(3), 3);
    }

    private static void push() {
        StreamWatcher x = new StreamWatcher();
        x.item(0, 1, ONCE);
        x.item(1, 3, ANY);
        x.item(2, 1, ONCE);
        x.item(2, 2, SOME);
        for (int s : NOT_0_TO_3) {
            due(5, "push(" + s + ")", x.push(s), NONE);
        }
        due(5, "taken() after refusals", x.taken(), 0);
        due(5, "push(0)", x.push(0), 3);
        due(5, "push(1)", x.push(1), 6);
        due(5, "push(1)", x.push(1), 6);
        due(5, "push(2)", x.push(2), 0);
        due(5, "push(1) after a gap", x.push(1), 2);
        x.item(3, 15, ONCE);
        due(5, "push(3)", x.push(3), 8);
        for (int n = 7; n <= 60; n++) {
            due(5, "push " + n, x.push(0), 11);
        }
        due(5, "push 61", x.push(0), FULL);
        due(5, "taken() after FULL", x.taken(), 60);
        due(5, "ends(0) after FULL", x.ends(0), 55);
        optionalOnlyMatchesAreNotEmpty();
    }

    private static void optionalOnlyMatchesAreNotEmpty() {
        StreamWatcher x = with(1, OPTIONAL, 2, ANY);
        due(5, "push out of both sets", x.push(3), 0);
        due(5, "push(1)", x.push(1), 1);
        due(5, "push(0)", x.push(0), 1);
        due(5, "push(1)", x.push(1), 1);
        due(5, "longest(0)", x.longest(0), 2);
    }

    private static void reset() {
        StreamWatcher x = with(1, ONCE, 2, ONCE);
        pushAll(x, 0, 1, 0);
        x.reset();
        due(6, "taken()", x.taken(), 0);
        due(6, "ends(0)", x.ends(0), 0);
        due(6, "endingAt(1)", x.endingAt(1), 0);
        due(6, "firstEnd(0)", x.firstEnd(0), NONE);
        due(6, "earliest(0, 1)", x.earliest(0, 1), NONE);
        due(6, "latest(0, 1)", x.latest(0, 1), NONE);
        due(6, "longest(0)", x.longest(0), 0);
        due(6, "completing(0)", x.completing(0), 0);
        due(6, "items(0)", x.items(0), 2);
        due(6, "push(1) with nothing before it", x.push(1), 0);
        for (int n = 2; n <= 60; n++) {
            x.push(3);
        }
        due(6, "push when full", x.push(3), FULL);
        x.reset();
        due(6, "push after reset of a full stream", x.push(0), 0);
        due(6, "push(1)", x.push(1), 1);
        due(6, "taken()", x.taken(), 2);
    }

    private static void taken() {
        StreamWatcher x = new StreamWatcher();
        for (int n = 1; n <= 60; n++) {
            x.push(n % 4);
            due(7, "taken()", x.taken(), n);
            x.push(4);
            due(7, "taken() after a wrong push", x.taken(), n);
        }
        x.push(0);
        due(7, "taken() after FULL", x.taken(), 60);
        x.completing(0);
        due(7, "taken() after completing", x.taken(), 60);
    }

    private static void endingAt() {
        StreamWatcher x = with(1, ONCE, 2, ONCE);
        x.item(2, 2, SOME);
        x.item(3, 4, OPTIONAL);
        pushAll(x, 0, 1, 1, 2);
        int[] want = {0, 5, 4, 8};
        for (int t = 0; t < 4; t++) {
            due(8, "endingAt(" + t + ")", x.endingAt(t), want[t]);
        }
        for (int t : new int[] {-1, 4, 59, 60, 61, Integer.MIN_VALUE, Integer.MAX_VALUE}) {
            due(8, "endingAt(" + t + ")", x.endingAt(t), 0);
        }
        x.item(1, 15, ONCE);
        due(8, "endingAt(0) with a pattern made later", x.endingAt(0), 2);
    }

    private static void ends() {
        StreamWatcher x = with(1, SOME, 2, ONCE);
        x.item(3, 15, ANY);
        pushAll(x, 0, 0, 1, 1, 0, 1, 3);
        due(9, "ends(0)", x.ends(0), 2);
        due(9, "ends(1) of an empty pattern", x.ends(1), 0);
        due(9, "ends(3)", x.ends(3), 7);
        for (int p : NOT_0_TO_3) {
            due(9, "ends(" + p + ")", x.ends(p), 0);
        }
    }

    private static void firstEnd() {
        StreamWatcher x = with(1, ONCE, 2, ONCE);
        x.item(1, 8, SOME);
        x.item(2, 2, ONCE);
        pushAll(x, 1, 0, 1, 0, 1);
        due(10, "firstEnd(0)", x.firstEnd(0), 2);
        due(10, "firstEnd(1)", x.firstEnd(1), NONE);
        due(10, "firstEnd(2)", x.firstEnd(2), 0);
        due(10, "firstEnd(3) of an empty pattern", x.firstEnd(3), NONE);
        for (int p : NOT_0_TO_3) {
            due(10, "firstEnd(" + p + ")", x.firstEnd(p), NONE);
        }
        x.reset();
        pushAll(x, 3, 3);
        due(10, "firstEnd(2), a forgotten end just past the stream", x.firstEnd(2), NONE);
    }

    /** Pattern 0 begins at 1, 2 and 4 where it ends at 5; pattern 1 nowhere; pattern 2 everywhere. */
    private static StreamWatcher severalBeginnings() {
        StreamWatcher x = with(1, ONCE, 7, ANY, 4, ONCE);
        x.item(1, 1, ONCE);
        x.item(2, 15, SOME);
        pushAll(x, 3, 0, 0, 1, 0, 2);
        return x;
    }

    private static void earliest() {
        StreamWatcher x = severalBeginnings();
        due(11, "earliest(0, 5)", x.earliest(0, 5), 1);
        due(11, "earliest(0, 4)", x.earliest(0, 4), NONE);
        due(11, "earliest(1, 5)", x.earliest(1, 5), NONE);
        due(11, "earliest(1, 4)", x.earliest(1, 4), 4);
        due(11, "earliest(2, 5)", x.earliest(2, 5), 0);
        due(11, "earliest(3, 5)", x.earliest(3, 5), NONE);
        for (int t : new int[] {-1, 6, 59, 60, Integer.MIN_VALUE, Integer.MAX_VALUE}) {
            due(11, "earliest(2, " + t + ")", x.earliest(2, t), NONE);
        }
        for (int p : NOT_0_TO_3) {
            due(11, "earliest(" + p + ", 5)", x.earliest(p, 5), NONE);
            due(11, "earliest(" + p + ", 99)", x.earliest(p, 99), NONE);
        }
    }

    private static void latest() {
        StreamWatcher x = severalBeginnings();
        due(12, "latest(0, 5)", x.latest(0, 5), 4);
        due(12, "latest(0, 4)", x.latest(0, 4), NONE);
        due(12, "latest(1, 5)", x.latest(1, 5), NONE);
        due(12, "latest(1, 4)", x.latest(1, 4), 4);
        due(12, "latest(2, 5)", x.latest(2, 5), 5);
        due(12, "latest(3, 5)", x.latest(3, 5), NONE);
        for (int t : new int[] {-1, 6, 59, 60, Integer.MIN_VALUE, Integer.MAX_VALUE}) {
            due(12, "latest(2, " + t + ")", x.latest(2, t), NONE);
        }
        for (int p : NOT_0_TO_3) {
            due(12, "latest(" + p + ", 5)", x.latest(p, 5), NONE);
            due(12, "latest(" + p + ", 99)", x.latest(p, 99), NONE);
        }
        StreamWatcher first = with(1, ONCE, 14, ANY);
        first.push(0);
        due(12, "latest(0, 0)", first.latest(0, 0), 0);
        for (int t = 1; t < 60; t++) {
            first.push(t % 3 + 1);
            due(12, "latest(0, " + t + ") of a match from place 0", first.latest(0, t), 0);
        }
        farBeginnings();
    }

    /** Places above 31, where a mask of 32 bits would not do. */
    private static void farBeginnings() {
        StreamWatcher x = with(1, SOME);
        for (int t = 0; t < 60; t++) {
            x.push(t < 40 ? 1 : 0);
        }
        for (int t = 40; t < 60; t++) {
            due(11, "earliest(0, " + t + ")", x.earliest(0, t), 40);
            due(12, "latest(0, " + t + ")", x.latest(0, t), t);
        }
        due(13, "longest(0)", x.longest(0), 20);
    }

    private static void longest() {
        StreamWatcher x = with(1, ANY);
        x.item(1, 8, SOME);
        x.item(2, 15, ANY);
        pushAll(x, 0, 1, 0, 0, 0, 1, 0, 0);
        due(13, "longest(0)", x.longest(0), 3);
        due(13, "longest(1)", x.longest(1), 0);
        due(13, "longest(2)", x.longest(2), 8);
        due(13, "longest(3) of an empty pattern", x.longest(3), 0);
        for (int p : NOT_0_TO_3) {
            due(13, "longest(" + p + ")", x.longest(p), 0);
        }
        for (int n = 9; n <= 60; n++) {
            x.push(2);
        }
        due(13, "longest(2) of a full stream", x.longest(2), 60);
    }

    private static void completing() {
        StreamWatcher x = with(1, ONCE, 6, ONCE);
        x.item(1, 9, OPTIONAL);
        x.item(2, 15, ONCE);
        x.item(2, 15, ONCE);
        due(14, "completing(0), nothing taken", x.completing(0), 0);
        due(14, "completing(1), nothing taken", x.completing(1), 9);
        due(14, "completing(2), nothing taken", x.completing(2), 0);
        x.push(0);
        due(14, "completing(0) after 0", x.completing(0), 6);
        due(14, "completing(2) after 0", x.completing(2), 15);
        due(14, "completing(3) of an empty pattern", x.completing(3), 0);
        due(14, "taken()", x.taken(), 1);
        x.push(1);
        due(14, "completing(0) after 1", x.completing(0), 0);
        for (int p : NOT_0_TO_3) {
            due(14, "completing(" + p + ")", x.completing(p), 0);
        }
        for (int n = 3; n <= 60; n++) {
            x.push(0);
        }
        due(14, "completing(0), 60 taken", x.completing(0), 6);
        due(14, "completing(1), 60 taken", x.completing(1), 9);
        due(14, "endingAt(59) is as it was", x.endingAt(59), 6);
        StreamWatcher whole = with(2, ONCE, 1, ANY, 4, ONCE);
        whole.push(1);
        for (int n = 2; n <= 60; n++) {
            whole.push(0);
        }
        due(14, "completing a match of 61 symbols", whole.completing(0), 4);
    }

    private static void emptyFits() {
        int[] fits = {0, 1, 1, 0};
        for (int p = 0; p < 4; p++) {
            for (int count = 0; count < 4; count++) {
                StreamWatcher x = new StreamWatcher();
                x.item(p, 5, count);
                due(15, "one item of count " + count, x.emptyFits(), 15 & ~(1 - fits[count] << p));
                x.item(p, 5, ANY);
                due(15, "ANY after it", x.emptyFits(), 15 & ~(1 - fits[count] << p));
                x.item(p, 5, ONCE);
                due(15, "ONCE after it", x.emptyFits(), 15 & ~(1 << p));
                x.push(0);
                x.drop(p);
                due(15, "ONCE dropped", x.emptyFits(), 15 & ~(1 - fits[count] << p));
            }
        }
        StreamWatcher six = with(1, ANY, 2, OPTIONAL, 4, ANY, 8, OPTIONAL, 1, ANY, 2, OPTIONAL);
        due(15, "six that may be empty", six.emptyFits(), 15);
        StreamWatcher middle = with(1, ANY, 2, OPTIONAL, 4, SOME, 8, OPTIONAL);
        due(15, "SOME in the middle", middle.emptyFits(), 14);
    }

    private static void orderAndLimits() {
        StreamWatcher x = new StreamWatcher();
        for (int n = 1; n <= 6; n++) {
            x.item(2, 15, ONCE);
        }
        due(16, "item of a full pattern", x.item(2, 15, ONCE), FULL);
        due(16, "wrong set, full pattern", x.item(2, 0, ONCE), NONE);
        due(16, "wrong set, full pattern", x.item(2, 16, ONCE), NONE);
        due(16, "wrong count, full pattern", x.item(2, 15, 4), NONE);
        due(16, "wrong count, full pattern", x.item(2, 15, -1), NONE);
        for (int n = 1; n <= 60; n++) {
            due(16, "push " + n, x.push(3), n < 6 ? 0 : 4);
        }
        due(16, "push, full stream", x.push(3), FULL);
        for (int s : NOT_0_TO_3) {
            due(16, "push(" + s + "), full stream", x.push(s), NONE);
        }
    }
}
