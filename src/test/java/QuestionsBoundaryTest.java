/** A test for each sentence of promises 8 to 15 that names a boundary. */
public final class QuestionsBoundaryTest {
    private static final int ONCE = Sentences.ONCE;
    private static final int OPTIONAL = Sentences.OPTIONAL;
    private static final int ANY = Sentences.ANY;
    private static final int SOME = Sentences.SOME;
    private static final int NONE = Sentences.NONE;
    private static final int MOST = Sentences.MOST;

    private static final Sentences about = new Sentences();

    public static void main(String[] args) {
        about.sentence("8: endingAt: bit p for pattern p", QuestionsBoundaryTest::endingAtAnswersPatterns);
        about.sentence("8: endingAt: 0 when t is not a place", QuestionsBoundaryTest::endingAtNoPlace);
        about.sentence("9: ends: The number of places", QuestionsBoundaryTest::endsFromNoneTo60);
        about.sentence("9: ends: 0 when p is not 0 .. 3", QuestionsBoundaryTest::endsOfNoPattern);
        about.sentence("10: firstEnd: The least place", QuestionsBoundaryTest::firstEndFrom0To59);
        about.sentence("10: firstEnd: NONE when there is none", QuestionsBoundaryTest::firstEndOfNone);
        about.sentence("10: firstEnd: NONE when p is not 0 .. 3", QuestionsBoundaryTest::firstEndOfNoPattern);
        about.sentence("11: earliest: The least place", QuestionsBoundaryTest::earliestIsLeast);
        about.sentence("11: earliest: NONE when there is none", QuestionsBoundaryTest::earliestOfNone);
        about.sentence("11: earliest: NONE when p is not 0 .. 3", QuestionsBoundaryTest::earliestOfNoPattern);
        about.sentence("11: earliest: NONE when t is not a place", QuestionsBoundaryTest::earliestAtNoPlace);
        about.sentence("12: latest: The greatest place", QuestionsBoundaryTest::latestIsGreatest);
        about.sentence("12: latest: NONE when there is none", QuestionsBoundaryTest::latestOfNone);
        about.sentence("12: latest: NONE when p is not 0 .. 3", QuestionsBoundaryTest::latestOfNoPattern);
        about.sentence("12: latest: NONE when t is not a place", QuestionsBoundaryTest::latestAtNoPlace);
        about.sentence("13: longest: The number of symbols", QuestionsBoundaryTest::longestFrom1To60);
        about.sentence("13: longest: 0 when there is none", QuestionsBoundaryTest::longestOfNone);
        about.sentence("13: longest: 0 when p is not 0 .. 3", QuestionsBoundaryTest::longestOfNoPattern);
        about.sentence("14: completing: bit s for symbol s", QuestionsBoundaryTest::completingAnswersSymbols);
        about.sentence("14: completing: as the next of the stream", QuestionsBoundaryTest::completingTakesNothing);
        about.sentence("14: completing: 0 when p is not 0 .. 3", QuestionsBoundaryTest::completingOfNoPattern);
        about.sentence("14: completing: 60 may be taken", QuestionsBoundaryTest::completingWhen60AreTaken);
        about.sentence("15: emptyFits: bit p for pattern p", QuestionsBoundaryTest::emptyFitsAnswersPatterns);
        about.sentence("15: emptyFits: from no item to six", QuestionsBoundaryTest::emptyFitsFromNoneToSix);
        about.sentence("No call may ever throw (LANGUAGE.md 7)", QuestionsBoundaryTest::noCallThrows);
        about.end();
    }

    private static void due(String call, long got, long want) {
        about.due(call, got, want);
    }

    /** Pattern 1 ends with a 0 at place t alone; the other symbols of a full stream are 3. */
    private static StreamWatcher oneZeroAt(int t) {
        StreamWatcher x = Sentences.with(1, 1, ONCE);
        for (int i = 0; i < MOST; i++) {
            x.push(i == t ? 0 : 3);
        }
        return x;
    }

    private static void endingAtAnswersPatterns() {
        for (int patterns = 0; patterns < 16; patterns++) {
            StreamWatcher x = new StreamWatcher();
            for (int p = 0; p < 4; p++) {
                x.item(p, patterns >> p & 1, ONCE);
            }
            Sentences.pushTimes(x, 0, MOST);
            due("endingAt(0), the first place", x.endingAt(0), patterns);
            due("endingAt(59), the last place", x.endingAt(59), patterns);
        }
        StreamWatcher x = Sentences.with(3, 1, ONCE, 2, ONCE);
        Sentences.pushAll(x, 0, 1, 0);
        due("endingAt(0), where a match begins", x.endingAt(0), 0);
        due("endingAt(1), where it ends", x.endingAt(1), 8);
        due("endingAt(2), after it", x.endingAt(2), 0);
    }

    /** A pattern that fits whatever is there, and forgotten symbols behind the stream. */
    private static StreamWatcher fitsAll(int taken) {
        StreamWatcher x = Sentences.with(0, 15, SOME);
        Sentences.pushTimes(x, 0, MOST);
        x.reset();
        Sentences.pushTimes(x, 1, taken);
        return x;
    }

    private static void endingAtNoPlace() {
        for (int taken : new int[] {0, 1, 9, 59, 60}) {
            StreamWatcher x = fitsAll(taken);
            for (int t : Sentences.notAPlace(taken)) {
                // -taken is the place 0 when nothing is taken; then place 0 is none either.
                due("endingAt(" + t + "), " + taken + " taken", x.endingAt(t), 0);
            }
            due("endingAt(" + (taken - 1) + "), " + taken + " taken", x.endingAt(taken - 1), taken == 0 ? 0 : 1);
            about.same("endingAt no place", x, fitsAll(taken));
        }
    }

    private static void endsFromNoneTo60() {
        StreamWatcher x = Sentences.with(0, 15, ANY);
        x.item(1, 8, ONCE);
        x.item(2, 15, ONCE);
        x.item(2, 15, ONCE);
        for (int n = 0; n < MOST; n++) {
            due("ends(0) with " + n, x.ends(0), n);
            due("ends(2) with " + n, x.ends(2), n == 0 ? 0 : n - 1);
            x.push(n % 3);
        }
        due("ends(0) with 60", x.ends(0), 60);
        due("ends(1) of a symbol not there", x.ends(1), 0);
        due("ends(2) with 60", x.ends(2), 59);
        due("ends(3) of an empty pattern", x.ends(3), 0);
        due("ends(1) at the first place", oneZeroAt(0).ends(1), 1);
        due("ends(1) at the last place", oneZeroAt(59).ends(1), 1);
        StreamWatcher many = Sentences.with(3, 15, ANY, 1, ONCE);
        Sentences.pushTimes(many, 1, 40);
        many.push(0);
        due("ends(3), 41 matches that end at one place", many.ends(3), 1);
    }

    private static void endsOfNoPattern() {
        StreamWatcher x = Sentences.busy(60);
        for (int p : Sentences.notZeroToThree()) {
            due("ends(" + p + ")", x.ends(p), 0);
        }
        about.same("ends of no pattern", x, Sentences.busy(60));
    }

    private static void firstEndFrom0To59() {
        for (int t = 0; t < MOST; t++) {
            due("firstEnd(1), end at " + t + " alone", oneZeroAt(t).firstEnd(1), t);
        }
        StreamWatcher x = Sentences.with(0, 1, ONCE, 15, SOME);
        Sentences.pushAll(x, 3, 0, 3, 0, 3);
        due("firstEnd(0) of several", x.firstEnd(0), 2);
    }

    private static void firstEndOfNone() {
        StreamWatcher x = Sentences.with(0, 15, ANY);
        x.item(1, 1, ONCE);
        x.item(2, 1, OPTIONAL);
        due("firstEnd(0), nothing taken", x.firstEnd(0), NONE);
        Sentences.pushTimes(x, 3, MOST);
        due("firstEnd(1), no such symbol", x.firstEnd(1), NONE);
        due("firstEnd(2), only the empty row", x.firstEnd(2), NONE);
        due("firstEnd(3), an empty pattern", x.firstEnd(3), NONE);
        x.reset();
        due("firstEnd(0) after reset", x.firstEnd(0), NONE);
    }

    private static void firstEndOfNoPattern() {
        StreamWatcher x = Sentences.busy(60);
        for (int p : Sentences.notZeroToThree()) {
            due("firstEnd(" + p + ")", x.firstEnd(p), NONE);
        }
        about.same("firstEnd of no pattern", x, Sentences.busy(60));
    }

    /** With a first symbol at both places, all to the end fits from either. */
    private static StreamWatcher twoBeginnings(int one, int other) {
        StreamWatcher x = Sentences.with(2, 1, ONCE, 15, ANY);
        for (int i = 0; i < MOST; i++) {
            x.push(i == one || i == other ? 0 : 3);
        }
        return x;
    }

    private static void earliestIsLeast() {
        for (int t = 0; t < MOST; t++) {
            StreamWatcher x = twoBeginnings(t, 59);
            due("earliest(2, 59) of " + t + " and 59", x.earliest(2, 59), t);
            due("earliest(2, " + t + ")", x.earliest(2, t), t);
            due("earliest(2, 59) of 0 and " + t, twoBeginnings(0, t).earliest(2, 59), 0);
            due("earliest(1, " + t + ") of one symbol", oneZeroAt(t).earliest(1, t), t);
        }
        StreamWatcher all = Sentences.with(0, 15, SOME);
        Sentences.pushTimes(all, 2, MOST);
        due("earliest(0, 0)", all.earliest(0, 0), 0);
        due("earliest(0, 59)", all.earliest(0, 59), 0);
    }

    private static void latestIsGreatest() {
        for (int t = 0; t < MOST; t++) {
            StreamWatcher x = twoBeginnings(0, t);
            due("latest(2, 59) of 0 and " + t, x.latest(2, 59), t);
            due("latest(2, " + t + ")", x.latest(2, t), t);
            due("latest(2, 59) of " + t + " and 59", twoBeginnings(t, 59).latest(2, 59), 59);
            due("latest(1, " + t + ") of one symbol", oneZeroAt(t).latest(1, t), t);
        }
        StreamWatcher all = Sentences.with(0, 15, SOME);
        Sentences.pushTimes(all, 2, MOST);
        due("latest(0, 0)", all.latest(0, 0), 0);
        due("latest(0, 59)", all.latest(0, 59), 59);
        StreamWatcher whole = Sentences.with(0, 1, ONCE, 2, SOME);
        whole.push(0);
        Sentences.pushTimes(whole, 1, 59);
        due("latest(0, 59) of the whole stream", whole.latest(0, 59), 0);
    }

    /** Pattern 0 matches at 1 .. 2 alone, pattern 1 fits the empty row only here, 2 is too long. */
    private static StreamWatcher fewMatches() {
        StreamWatcher x = Sentences.with(0, 1, ONCE, 2, ONCE);
        x.item(1, 8, ANY);
        for (int n = 0; n < 6; n++) {
            x.item(2, 15, ONCE);
        }
        Sentences.pushAll(x, 1, 0, 1, 1, 0);
        return x;
    }

    private static void earliestOfNone() {
        StreamWatcher x = fewMatches();
        due("earliest(0, 2)", x.earliest(0, 2), 1);
        for (int t = 0; t < 5; t++) {
            if (t != 2) {
                due("earliest(0, " + t + ")", x.earliest(0, t), NONE);
            }
            due("earliest(1, " + t + "), only the empty row", x.earliest(1, t), NONE);
            due("earliest(2, " + t + "), one symbol too few", x.earliest(2, t), NONE);
            due("earliest(3, " + t + "), an empty pattern", x.earliest(3, t), NONE);
        }
    }

    private static void latestOfNone() {
        StreamWatcher x = fewMatches();
        due("latest(0, 2)", x.latest(0, 2), 1);
        for (int t = 0; t < 5; t++) {
            if (t != 2) {
                due("latest(0, " + t + ")", x.latest(0, t), NONE);
            }
            due("latest(1, " + t + "), only the empty row", x.latest(1, t), NONE);
            due("latest(2, " + t + "), one symbol too few", x.latest(2, t), NONE);
            due("latest(3, " + t + "), an empty pattern", x.latest(3, t), NONE);
        }
    }

    private static void earliestOfNoPattern() {
        StreamWatcher x = Sentences.busy(60);
        for (int p : Sentences.notZeroToThree()) {
            due("earliest(" + p + ", 0)", x.earliest(p, 0), NONE);
            due("earliest(" + p + ", 59)", x.earliest(p, 59), NONE);
            due("earliest(" + p + ", 60)", x.earliest(p, 60), NONE);
        }
        about.same("earliest of no pattern", x, Sentences.busy(60));
    }

    private static void latestOfNoPattern() {
        StreamWatcher x = Sentences.busy(60);
        for (int p : Sentences.notZeroToThree()) {
            due("latest(" + p + ", 0)", x.latest(p, 0), NONE);
            due("latest(" + p + ", 59)", x.latest(p, 59), NONE);
            due("latest(" + p + ", 60)", x.latest(p, 60), NONE);
        }
        about.same("latest of no pattern", x, Sentences.busy(60));
    }

    private static void earliestAtNoPlace() {
        for (int taken : new int[] {0, 1, 9, 59, 60}) {
            StreamWatcher x = fitsAll(taken);
            for (int t : Sentences.notAPlace(taken)) {
                due("earliest(0, " + t + "), " + taken + " taken", x.earliest(0, t), NONE);
            }
            due("earliest at the last place", x.earliest(0, taken - 1), taken == 0 ? NONE : 0);
            about.same("earliest at no place", x, fitsAll(taken));
        }
    }

    private static void latestAtNoPlace() {
        for (int taken : new int[] {0, 1, 9, 59, 60}) {
            StreamWatcher x = fitsAll(taken);
            for (int t : Sentences.notAPlace(taken)) {
                due("latest(0, " + t + "), " + taken + " taken", x.latest(0, t), NONE);
            }
            due("latest at the last place", x.latest(0, taken - 1), taken == 0 ? NONE : taken - 1);
            about.same("latest at no place", x, fitsAll(taken));
        }
    }

    /** A match of each length, at the beginning and at the end of a full stream. */
    private static void longestFrom1To60() {
        for (int length = 1; length <= MOST; length++) {
            StreamWatcher first = Sentences.with(3, 1, SOME);
            Sentences.pushTimes(first, 0, length);
            Sentences.pushTimes(first, 1, MOST - length);
            due("longest(3), the first " + length, first.longest(3), length);
            StreamWatcher last = Sentences.with(3, 1, SOME);
            Sentences.pushTimes(last, 1, MOST - length);
            Sentences.pushTimes(last, 0, length);
            due("longest(3), the last " + length, last.longest(3), length);
        }
        StreamWatcher x = Sentences.with(0, 1, ANY);
        Sentences.pushAll(x, 0, 0, 1, 0, 0, 0, 1, 0);
        due("longest(0) in the middle", x.longest(0), 3);
    }

    private static void longestOfNone() {
        StreamWatcher x = Sentences.with(0, 15, ANY);
        x.item(1, 1, ONCE);
        x.item(2, 1, OPTIONAL);
        due("longest(0), nothing taken", x.longest(0), 0);
        Sentences.pushTimes(x, 3, MOST);
        due("longest(1), no such symbol", x.longest(1), 0);
        due("longest(2), only the empty row", x.longest(2), 0);
        due("longest(3), an empty pattern", x.longest(3), 0);
        x.reset();
        due("longest(0) after reset", x.longest(0), 0);
    }

    private static void longestOfNoPattern() {
        StreamWatcher x = Sentences.busy(60);
        for (int p : Sentences.notZeroToThree()) {
            due("longest(" + p + ")", x.longest(p), 0);
        }
        about.same("longest of no pattern", x, Sentences.busy(60));
    }

    private static void completingAnswersSymbols() {
        for (int set = 1; set <= 15; set++) {
            StreamWatcher x = Sentences.with(0, 1, ONCE, set, ONCE);
            x.item(1, set, ANY);
            due("completing(0), nothing taken, set " + set, x.completing(0), 0);
            due("completing(1), nothing taken, set " + set, x.completing(1), set);
            due("completing(2) of an empty pattern", x.completing(2), 0);
            x.push(0);
            due("completing(0) after 0, set " + set, x.completing(0), set);
            x.push(1);
            due("completing(0) after 1, set " + set, x.completing(0), 0);
            due("completing(1) after 1, set " + set, x.completing(1), set);
        }
    }

    /** What completing says is what push would then answer, and nothing was taken by asking. */
    private static void completingTakesNothing() {
        for (int taken = 0; taken < 12; taken++) {
            StreamWatcher x = Sentences.busy(taken);
            int[] symbols = new int[4];
            for (int p = 0; p < 4; p++) {
                symbols[p] = x.completing(p);
            }
            about.same("completing", x, Sentences.busy(taken));
            for (int s = 0; s < 4; s++) {
                int patterns = Sentences.busy(taken).push(s);
                for (int p = 0; p < 4; p++) {
                    due("completing(" + p + ") of " + s, symbols[p] >> s & 1, patterns >> p & 1);
                }
            }
        }
    }

    private static void completingOfNoPattern() {
        for (int taken : new int[] {0, 9, 60}) {
            StreamWatcher x = Sentences.busy(taken);
            for (int p : Sentences.notZeroToThree()) {
                due("completing(" + p + "), " + taken + " taken", x.completing(p), 0);
            }
            about.same("completing of no pattern", x, Sentences.busy(taken));
        }
    }

    private static void completingWhen60AreTaken() {
        for (int taken = 59; taken <= MOST; taken++) {
            StreamWatcher x = Sentences.with(0, 1, ONCE, 8, ANY, 6, ONCE);
            x.item(1, 9, ONCE);
            x.item(2, 1, ONCE);
            x.item(2, 15, ONCE);
            x.push(0);
            Sentences.pushTimes(x, 3, taken - 1);
            due("completing(0) of the whole stream and one, " + taken + " taken", x.completing(0), 6);
            due("completing(1) of one symbol, " + taken + " taken", x.completing(1), 9);
            due("completing(2), " + taken + " taken", x.completing(2), 0);
            due("completing(3) of an empty pattern, " + taken + " taken", x.completing(3), 0);
            due("taken()", x.taken(), taken);
            due("endingAt(60)", x.endingAt(60), 0);
        }
        StreamWatcher last = Sentences.with(0, 2, ONCE, 4, ONCE);
        Sentences.pushTimes(last, 0, 59);
        last.push(1);
        due("completing(0) right after the 60th", last.completing(0), 4);
        StreamWatcher lastButOne = Sentences.with(0, 2, ONCE, 4, ONCE);
        Sentences.pushTimes(lastButOne, 1, 59);
        lastButOne.push(0);
        due("completing(0) not right after the 59th", lastButOne.completing(0), 0);
        StreamWatcher x = Sentences.busy(60);
        for (int p = 0; p < 4; p++) {
            x.completing(p);
        }
        about.same("completing with 60 taken", x, Sentences.busy(60));
    }

    private static void emptyFitsAnswersPatterns() {
        for (int patterns = 0; patterns < 16; patterns++) {
            StreamWatcher x = new StreamWatcher();
            for (int p = 0; p < 4; p++) {
                x.item(p, 1, (patterns >> p & 1) != 0 ? ANY : SOME);
            }
            due("emptyFits()", x.emptyFits(), patterns);
            Sentences.pushTimes(x, 0, MOST);
            due("emptyFits() with 60 taken", x.emptyFits(), patterns);
        }
    }

    /** Six that may be empty fit; one that may not, at any place among n, and they don't. */
    private static void emptyFitsFromNoneToSix() {
        due("emptyFits() of no items", new StreamWatcher().emptyFits(), 15);
        for (int n = 1; n <= 6; n++) {
            StreamWatcher all = new StreamWatcher();
            for (int k = 0; k < n; k++) {
                all.item(2, 15, k % 2 == 0 ? ANY : OPTIONAL);
            }
            due("emptyFits() of " + n, all.emptyFits(), 15);
            for (int wrong = 0; wrong < n; wrong++) {
                for (int count : new int[] {ONCE, SOME}) {
                    StreamWatcher x = new StreamWatcher();
                    for (int k = 0; k < n; k++) {
                        x.item(2, 15, k == wrong ? count : k % 2 == 0 ? OPTIONAL : ANY);
                    }
                    due("emptyFits() with count " + count + " at " + wrong, x.emptyFits(), 11);
                }
            }
        }
    }

    /** In an empty, a used and a full object; what is answered is due elsewhere. */
    private static void noCallThrows() {
        int[] values = {0, 3, -1, 4, 15, 16, 59, 60, 64, Integer.MIN_VALUE, Integer.MAX_VALUE};
        for (int taken : new int[] {0, 9, 60}) {
            for (int a : values) {
                StreamWatcher x = Sentences.busy(taken);
                for (int b : values) {
                    x.item(a, b, b);
                    x.item(b, a, b);
                    x.earliest(a, b);
                    x.latest(a, b);
                }
                x.items(a);
                x.push(a);
                x.endingAt(a);
                x.ends(a);
                x.firstEnd(a);
                x.longest(a);
                x.completing(a);
                for (int n = 0; n < 8; n++) {
                    x.drop(a);
                }
                due("taken() is 0 .. 60", x.taken() >= 0 && x.taken() <= 60 ? 1 : 0, 1);
                x.emptyFits();
                x.reset();
                due("taken() after reset", x.taken(), 0);
            }
        }
    }
}
