/** A test for each sentence of "What it is" and "Terms" that names a boundary. */
public final class TermsBoundaryTest {
    private static final int ONCE = Sentences.ONCE;
    private static final int OPTIONAL = Sentences.OPTIONAL;
    private static final int ANY = Sentences.ANY;
    private static final int SOME = Sentences.SOME;
    private static final int NONE = Sentences.NONE;
    private static final int FULL = Sentences.FULL;
    private static final int MOST = Sentences.MOST;

    private static final Sentences about = new Sentences();

    public static void main(String[] args) {
        about.sentence("An object is used for at most 512 calls", TermsBoundaryTest::all512Calls);
        about.sentence("Symbols are 0 .. 3", TermsBoundaryTest::symbols);
        about.sentence("There are PATTERNS 0 .. 3", TermsBoundaryTest::patterns);
        about.sentence("each a list of at most six ITEMS", TermsBoundaryTest::atMostSixItems);
        about.sentence("(empty at first)", TermsBoundaryTest::emptyAtFirst);
        about.sentence("a set of symbols (1 .. 15, bit s for symbol s)", TermsBoundaryTest::sets);
        about.sentence("ONCE (0), OPTIONAL (1), ANY (2) or SOME (3)", TermsBoundaryTest::counts);
        about.sentence("all its symbols are in the set", TermsBoundaryTest::allSymbolsInTheSet);
        about.sentence("their number is 1 for ONCE", TermsBoundaryTest::once);
        about.sentence("0 or 1 for OPTIONAL", TermsBoundaryTest::optional);
        about.sentence("any for ANY", TermsBoundaryTest::any);
        about.sentence("at least 1 for SOME", TermsBoundaryTest::some);
        about.sentence("cut into as many rows as the pattern has items", TermsBoundaryTest::asManyRows);
        about.sentence("one after the other", TermsBoundaryTest::oneAfterTheOther);
        about.sentence("it can be cut", TermsBoundaryTest::itCanBeCut);
        about.sentence("an empty pattern is fitted by the empty row only", TermsBoundaryTest::emptyPattern);
        about.sentence("places 0, 1, ..", TermsBoundaryTest::places);
        about.sentence("at most 60 are taken", TermsBoundaryTest::atMost60);
        about.sentence("from <= to, both included", TermsBoundaryTest::bothIncluded);
        about.sentence("so it is never empty", TermsBoundaryTest::neverEmpty);
        about.sentence("Patterns can be changed at any time", TermsBoundaryTest::changedAtAnyTime);
        about.sentence("about the whole stream", TermsBoundaryTest::wholeStream);
        about.sentence("and the patterns as they are", TermsBoundaryTest::patternsAsTheyAre);
        about.end();
    }

    private static void due(String call, long got, long want) {
        about.due(call, got, want);
    }

    private static void all512Calls() {
        StreamWatcher x = new StreamWatcher();
        x.item(3, 1, ONCE);
        x.item(3, 2, ONCE);
        int calls = 2;
        for (int round = 1; round <= 8; round++) {
            for (int n = 0; n < MOST; n++) {
                due("call " + ++calls + ", push", x.push(n % 2), n % 2 * 8);
            }
            due("call " + ++calls + ", push of a 61st", x.push(0), FULL);
            x.reset();
            calls++;
        }
        for (int n = 0; n < 12; n++) {
            due("call " + ++calls + ", push", x.push(n % 2), n % 2 * 8);
        }
        due("call " + ++calls + ", latest(3, 11)", x.latest(3, 11), 10);
        due("call " + ++calls + ", ends(3)", x.ends(3), 6);
        due("calls", calls, 512);
    }

    private static void symbols() {
        StreamWatcher x = Sentences.with(0, 15, ONCE);
        for (int s = 0; s <= 3; s++) {
            due("push(" + s + ")", x.push(s), 1);
        }
        due("push(-1)", x.push(-1), NONE);
        due("push(4)", x.push(4), NONE);
        due("taken()", x.taken(), 4);
    }

    private static void patterns() {
        StreamWatcher x = new StreamWatcher();
        for (int p = 0; p <= 3; p++) {
            due("item(" + p + ", ..)", x.item(p, 1 << p, ONCE), 1);
        }
        due("item(-1, ..)", x.item(-1, 15, ONCE), NONE);
        due("item(4, ..)", x.item(4, 15, ONCE), NONE);
        for (int p = 0; p <= 3; p++) {
            due("push of pattern " + p + "'s symbol", x.push(p), 1 << p);
        }
    }

    /** A seventh item must not spill into the pattern after it, nor a sixth be lost. */
    private static void atMostSixItems() {
        for (int p = 0; p < 4; p++) {
            StreamWatcher x = Sentences.with(p, 1, ONCE, 2, ONCE, 4, ONCE, 8, ONCE, 1, ONCE, 2, ONCE);
            due("a seventh item of " + p, x.item(p, 4, ANY), FULL);
            Sentences.pushAll(x, 0, 1, 2, 3, 0);
            due("push of the sixth's symbol", x.push(1), 1 << p);
            due("push of the seventh's symbol", x.push(2), 0);
            due("longest(" + p + ")", x.longest(p), 6);
            for (int q = 0; q < 4; q++) {
                due("items(" + q + ")", x.items(q), q == p ? 6 : 0);
            }
        }
        StreamWatcher x = new StreamWatcher();
        for (int n = 0; n < 24; n++) {
            due("item " + n / 4 + " of " + n % 4, x.item(n % 4, 1 << n % 4, ONCE), n / 4 + 1);
        }
        for (int p = 0; p < 4; p++) {
            due("a seventh item of " + p + " beside full ones", x.item(p, 15, ANY), FULL);
        }
        for (int n = 0; n < 24; n++) {
            due("push " + n + " with 24 items", x.push(n / 6), n % 6 == 5 ? 1 << n / 6 : 0);
        }
    }

    private static void emptyAtFirst() {
        StreamWatcher x = new StreamWatcher();
        for (int p = 0; p < 4; p++) {
            due("items(" + p + ")", x.items(p), 0);
            due("drop(" + p + ")", x.drop(p), NONE);
            due("first item(" + p + ", ..)", x.item(p, 1, ONCE), 1);
        }
    }

    private static void sets() {
        for (int set = 1; set <= 15; set++) {
            StreamWatcher x = new StreamWatcher();
            due("item(0, " + set + ", 0)", x.item(0, set, ONCE), 1);
            for (int s = 0; s < 4; s++) {
                due("push(" + s + ") with set " + set, x.push(s), set >> s & 1);
            }
        }
        StreamWatcher x = new StreamWatcher();
        due("item(0, 0, 0)", x.item(0, 0, ONCE), NONE);
        due("item(0, 16, 0)", x.item(0, 16, ONCE), NONE);
    }

    /** Each number means its own count: by the empty row and by a row of two. */
    private static void counts() {
        int[] emptyRow = {0, 1, 1, 0};
        int[] longest = {1, 1, 2, 2};
        for (int count = 0; count <= 3; count++) {
            StreamWatcher x = new StreamWatcher();
            due("item(0, 1, " + count + ")", x.item(0, 1, count), 1);
            due("emptyFits() with " + count, x.emptyFits() & 1, emptyRow[count]);
            Sentences.pushAll(x, 0, 0);
            due("longest(0) with " + count, x.longest(0), longest[count]);
        }
        StreamWatcher x = new StreamWatcher();
        due("item(0, 1, -1)", x.item(0, 1, -1), NONE);
        due("item(0, 1, 4)", x.item(0, 1, 4), NONE);
    }

    /** Symbol 3 is in no set: first, in the middle and last in a row of five. */
    private static void allSymbolsInTheSet() {
        for (int count = ANY; count <= SOME; count++) {
            for (int wrong = 0; wrong < 5; wrong++) {
                StreamWatcher x = Sentences.with(0, 7, count);
                for (int t = 0; t < 5; t++) {
                    due("push, wrong one at " + wrong, x.push(t == wrong ? 3 : t % 3), t == wrong ? 0 : 1);
                }
                due("earliest(0, 4)", x.earliest(0, 4), wrong == 4 ? NONE : wrong + 1);
                due("longest(0)", x.longest(0), Math.max(wrong, 4 - wrong));
            }
        }
    }

    /** Whether so many symbols 1 between 0 and 2 fit an item of that count. */
    private static void between(int count, int number, int want) {
        StreamWatcher x = Sentences.with(0, 1, ONCE, 2, count, 4, ONCE);
        x.push(0);
        Sentences.pushTimes(x, 1, number);
        due("push(2) after " + number, x.push(2), want);
    }

    private static void once() {
        between(ONCE, 0, 0);
        between(ONCE, 1, 1);
        between(ONCE, 2, 0);
        between(ONCE, 58, 0);
    }

    private static void optional() {
        between(OPTIONAL, 0, 1);
        between(OPTIONAL, 1, 1);
        between(OPTIONAL, 2, 0);
        between(OPTIONAL, 58, 0);
    }

    private static void any() {
        for (int number = 0; number <= 58; number++) {
            between(ANY, number, 1);
        }
    }

    private static void some() {
        between(SOME, 0, 0);
        for (int number = 1; number <= 58; number++) {
            between(SOME, number, 1);
        }
    }

    /** With n items of one symbol each, and of one or more, or at most one, for n from 1 to 6. */
    private static void asManyRows() {
        for (int n = 1; n <= 6; n++) {
            StreamWatcher x = new StreamWatcher();
            for (int k = 0; k < n; k++) {
                x.item(0, 1, ONCE);
                x.item(1, 1, SOME);
                x.item(2, 1, OPTIONAL);
            }
            for (int t = 0; t < 10; t++) {
                due("push " + t + " with " + n + " items", x.push(0), t + 1 < n ? 4 : 7);
                due("earliest(0, " + t + ")", x.earliest(0, t), t + 1 < n ? NONE : t + 1 - n);
                due("latest(0, " + t + ")", x.latest(0, t), t + 1 < n ? NONE : t + 1 - n);
                due("earliest(1, " + t + ")", x.earliest(1, t), t + 1 < n ? NONE : 0);
                due("latest(1, " + t + ")", x.latest(1, t), t + 1 < n ? NONE : t + 1 - n);
                due("earliest(2, " + t + ")", x.earliest(2, t), Math.max(0, t + 1 - n));
                due("latest(2, " + t + ")", x.latest(2, t), t);
            }
            due("longest(0)", x.longest(0), n);
            due("longest(1)", x.longest(1), 10);
            due("longest(2)", x.longest(2), n);
        }
    }

    private static void oneAfterTheOther() {
        StreamWatcher x = Sentences.with(0, 1, ONCE, 2, ONCE, 4, ONCE);
        Sentences.pushAll(x, 2, 1, 0, 2, 0, 1, 1, 2, 0, 1, 3, 2, 0, 0, 1);
        due("ends(0) of other orders and with gaps", x.ends(0), 0);
        due("push(2) right after 0, 1", x.push(2), 1);
        due("latest(0, 15)", x.latest(0, 15), 13);
    }

    /** An item that could take all must leave some for the items beside it. */
    private static void itCanBeCut() {
        StreamWatcher before = Sentences.with(0, 15, ANY, 1, ONCE);
        StreamWatcher after = Sentences.with(0, 1, ONCE, 15, ANY);
        StreamWatcher may = Sentences.with(0, 1, OPTIONAL, 1, ONCE, 1, OPTIONAL);
        due("push(0), ANY before ONCE", before.push(0), 1);
        due("push(0), ANY after ONCE", after.push(0), 1);
        due("push(0), OPTIONAL before and after ONCE", may.push(0), 1);
        Sentences.pushTimes(before, 0, 59);
        Sentences.pushTimes(after, 0, 59);
        Sentences.pushTimes(may, 0, 59);
        due("longest(0), ANY before ONCE", before.longest(0), 60);
        due("longest(0), ANY after ONCE", after.longest(0), 60);
        due("longest(0), OPTIONAL before and after ONCE", may.longest(0), 3);
        StreamWatcher some = Sentences.with(0, 3, SOME, 1, SOME, 3, SOME);
        Sentences.pushAll(some, 1, 1, 0);
        due("push(1), one 0 inside", some.push(1), 1);
        StreamWatcher none = Sentences.with(0, 3, SOME, 1, SOME, 3, SOME);
        Sentences.pushAll(none, 0, 1, 1);
        due("push(0), 0 only at the edges", none.push(0), 0);
    }

    private static void emptyPattern() {
        StreamWatcher x = new StreamWatcher();
        due("emptyFits()", x.emptyFits(), 15);
        due("completing(0), nothing taken", x.completing(0), 0);
        for (int t = 0; t < MOST; t++) {
            due("push " + t, x.push(t % 4), 0);
        }
        due("endingAt(0)", x.endingAt(0), 0);
        for (int p = 0; p < 4; p++) {
            due("ends(" + p + ")", x.ends(p), 0);
            due("firstEnd(" + p + ")", x.firstEnd(p), NONE);
            due("earliest(" + p + ", 59)", x.earliest(p, 59), NONE);
            due("latest(" + p + ", 59)", x.latest(p, 59), NONE);
            due("longest(" + p + ")", x.longest(p), 0);
            due("completing(" + p + ")", x.completing(p), 0);
        }
        x.item(0, 15, ONCE);
        due("drop(0)", x.drop(0), 0);
        due("ends(0), empty again", x.ends(0), 0);
        due("emptyFits(), empty again", x.emptyFits(), 15);
    }

    private static void places() {
        for (int t = 0; t < MOST; t++) {
            StreamWatcher x = Sentences.with(0, 2, ONCE);
            Sentences.pushTimes(x, 0, t);
            x.push(1);
            due("firstEnd(0), " + t + " before it", x.firstEnd(0), t);
            due("latest(0, " + t + ")", x.latest(0, t), t);
            due("endingAt(" + t + ")", x.endingAt(t), 1);
        }
    }

    private static void atMost60() {
        StreamWatcher x = Sentences.with(0, 15, ANY);
        for (int n = 1; n <= MOST; n++) {
            due("push " + n, x.push(3), 1);
        }
        due("push 61", x.push(3), FULL);
        due("push 62", x.push(0), FULL);
        due("taken()", x.taken(), 60);
        due("endingAt(59)", x.endingAt(59), 1);
        due("endingAt(60)", x.endingAt(60), 0);
        due("longest(0)", x.longest(0), 60);
    }

    private static void bothIncluded() {
        StreamWatcher one = Sentences.with(0, 2, ONCE);
        Sentences.pushAll(one, 0, 1, 0);
        due("earliest of a match of one place", one.earliest(0, 1), 1);
        due("latest of a match of one place", one.latest(0, 1), 1);
        due("longest(0)", one.longest(0), 1);
        StreamWatcher two = Sentences.with(0, 1, ONCE, 2, ONCE);
        Sentences.pushAll(two, 0, 1);
        due("earliest of the least span of two", two.earliest(0, 1), 0);
        due("endingAt(0)", two.endingAt(0), 0);
        due("longest(0)", two.longest(0), 2);
    }

    private static void neverEmpty() {
        StreamWatcher x = Sentences.with(0, 1, OPTIONAL);
        x.item(1, 1, ANY);
        x.item(2, 1, ANY);
        x.item(2, 1, OPTIONAL);
        due("emptyFits()", x.emptyFits(), 15);
        due("push(1), in no set", x.push(1), 0);
        due("push(0), in each set", x.push(0), 7);
        due("push(3), in no set", x.push(3), 0);
        for (int p = 0; p < 3; p++) {
            due("ends(" + p + ")", x.ends(p), 1);
            due("earliest(" + p + ", 0)", x.earliest(p, 0), NONE);
            due("latest(" + p + ", 2)", x.latest(p, 2), NONE);
            due("completing(" + p + ")", x.completing(p), 1);
        }
    }

    private static void changedAtAnyTime() {
        StreamWatcher x = new StreamWatcher();
        due("item before the first push", x.item(0, 1, ONCE), 1);
        x.push(0);
        due("item after one", x.item(0, 2, ONCE), 2);
        due("push(1)", x.push(1), 1);
        Sentences.pushTimes(x, 2, 58);
        due("item of a full stream", x.item(0, 4, ANY), 3);
        due("ends(0)", x.ends(0), 59);
        due("drop of a full stream", x.drop(0), 2);
        due("ends(0)", x.ends(0), 1);
        due("drop", x.drop(0), 1);
        due("item of another count", x.item(0, 14, SOME), 2);
        due("ends(0)", x.ends(0), 59);
        due("longest(0)", x.longest(0), 60);
    }

    /** A pattern made when all is taken is asked about the first place and the last. */
    private static void wholeStream() {
        StreamWatcher x = new StreamWatcher();
        for (int t = 0; t < MOST; t++) {
            x.push(t == 0 || t == 59 ? 1 : 0);
        }
        x.item(2, 2, ONCE);
        due("endingAt(0)", x.endingAt(0), 4);
        due("endingAt(1)", x.endingAt(1), 0);
        due("endingAt(59)", x.endingAt(59), 4);
        due("firstEnd(2)", x.firstEnd(2), 0);
        due("ends(2)", x.ends(2), 2);
        x.item(2, 1, ANY);
        x.item(2, 2, ONCE);
        due("earliest(2, 59)", x.earliest(2, 59), 0);
        due("longest(2)", x.longest(2), 60);
    }

    /** What push answered then doesn't bind what is asked now. */
    private static void patternsAsTheyAre() {
        StreamWatcher x = Sentences.with(1, 1, ONCE);
        due("push(0)", x.push(0), 2);
        x.drop(1);
        due("endingAt(0) after drop", x.endingAt(0), 0);
        x.item(1, 2, ONCE);
        due("endingAt(0) with another item", x.endingAt(0), 0);
        due("completing(1)", x.completing(1), 2);
        due("push(1)", x.push(1), 2);
        x.drop(1);
        x.item(1, 1, SOME);
        x.item(1, 2, OPTIONAL);
        due("endingAt(1) with two others", x.endingAt(1), 2);
        due("earliest(1, 1)", x.earliest(1, 1), 0);
        due("endingAt(0)", x.endingAt(0), 2);
    }
}
