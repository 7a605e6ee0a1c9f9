/** A test for each sentence of promises 1 to 7 and 16 that names a boundary. */
public final class ChangesBoundaryTest {
    private static final int ONCE = Sentences.ONCE;
    private static final int OPTIONAL = Sentences.OPTIONAL;
    private static final int ANY = Sentences.ANY;
    private static final int SOME = Sentences.SOME;
    private static final int NONE = Sentences.NONE;
    private static final int FULL = Sentences.FULL;
    private static final int MOST = Sentences.MOST;

    private static final Sentences about = new Sentences();

    public static void main(String[] args) {
        about.sentence("1: Empty patterns", ChangesBoundaryTest::newPatterns);
        about.sentence("1: an empty stream", ChangesBoundaryTest::newStream);
        about.sentence("2: item: Appends", ChangesBoundaryTest::itemAppends);
        about.sentence("2: item: NONE when p is not 0 .. 3", ChangesBoundaryTest::itemOfNoPattern);
        about.sentence("2: item: NONE when set is not 1 .. 15", ChangesBoundaryTest::itemOfNoSet);
        about.sentence("2: item: NONE when count is not 0 .. 3", ChangesBoundaryTest::itemOfNoCount);
        about.sentence("2: item: FULL when the pattern has six", ChangesBoundaryTest::itemOfFullPattern);
        about.sentence("2: item: otherwise the number of items now", ChangesBoundaryTest::itemAnswersNumber);
        about.sentence("3: drop: Takes the last item away", ChangesBoundaryTest::dropTakesLast);
        about.sentence("3: drop: answers the number left", ChangesBoundaryTest::dropAnswersNumber);
        about.sentence("3: drop: NONE when p is not 0 .. 3", ChangesBoundaryTest::dropOfNoPattern);
        about.sentence("3: drop: NONE when it has none", ChangesBoundaryTest::dropOfNone);
        about.sentence("4: items: The number of items", ChangesBoundaryTest::itemsFromNoneToSix);
        about.sentence("4: items: NONE when p is not 0 .. 3", ChangesBoundaryTest::itemsOfNoPattern);
        about.sentence("5: push: NONE when s is not 0 .. 3", ChangesBoundaryTest::pushOfNoSymbol);
        about.sentence("5: push: FULL when 60 are taken", ChangesBoundaryTest::pushWhen60AreTaken);
        about.sentence("5: push: the patterns that have a match ending here", ChangesBoundaryTest::pushAnswersPatterns);
        about.sentence("6: reset: Forgets the stream", ChangesBoundaryTest::resetForgets);
        about.sentence("6: reset: the stream alone", ChangesBoundaryTest::resetKeepsPatterns);
        about.sentence("7: taken: The number of symbols taken", ChangesBoundaryTest::takenFromNoneTo60);
        about.sentence("7: taken: not those that were refused", ChangesBoundaryTest::takenWithoutRefused);
        about.sentence("16: item: NONE is tested before FULL", ChangesBoundaryTest::itemNoneBeforeFull);
        about.sentence("16: push: NONE is tested before FULL", ChangesBoundaryTest::pushNoneBeforeFull);
        about.end();
    }

    private static void due(String call, long got, long want) {
        about.due(call, got, want);
    }

    private static void newPatterns() {
        StreamWatcher x = new StreamWatcher();
        due("emptyFits()", x.emptyFits(), 15);
        for (int p = 0; p < 4; p++) {
            due("items(" + p + ")", x.items(p), 0);
            due("completing(" + p + ")", x.completing(p), 0);
        }
        due("push(0)", x.push(0), 0);
        StreamWatcher used = Sentences.with(0, 1, ONCE);
        due("items(0) beside a used object", new StreamWatcher().items(0), 0);
        Sentences.with(0, 8, ANY);
        due("emptyFits() of the used one", used.emptyFits(), 14);
        due("completing(0) of the used one", used.completing(0), 1);
    }

    /** The pattern fits whatever there is, so that a symbol there from the first would be seen. */
    private static void newStream() {
        StreamWatcher x = new StreamWatcher();
        due("taken()", x.taken(), 0);
        x.item(0, 15, SOME);
        due("endingAt(0)", x.endingAt(0), 0);
        due("ends(0)", x.ends(0), 0);
        due("firstEnd(0)", x.firstEnd(0), NONE);
        due("earliest(0, 0)", x.earliest(0, 0), NONE);
        due("latest(0, 0)", x.latest(0, 0), NONE);
        due("longest(0)", x.longest(0), 0);
        x.item(0, 15, ONCE);
        due("completing(0) of two symbols", x.completing(0), 0);
        due("first push", x.push(0), 0);
        due("taken()", x.taken(), 1);
        due("taken() beside a used object", new StreamWatcher().taken(), 0);
        Sentences.busy(0).push(3);
        x.item(1, 1, ONCE);
        due("endingAt(0) of the used one", x.endingAt(0), 2);
    }

    /** The new one is behind those there are: the first, one after some, and the sixth. */
    private static void itemAppends() {
        for (int p = 0; p < 4; p++) {
            StreamWatcher x = new StreamWatcher();
            Sentences.pushAll(x, 0, 1, 2, 3, 0, 1);
            for (int n = 0; n < 6; n++) {
                x.item(p, 1 << n % 4, ONCE);
                due("earliest(" + p + ", " + n + ") with " + (n + 1), x.earliest(p, n), 0);
            }
            due("ends(" + p + ")", x.ends(p), 1);
        }
    }

    private static void itemOfNoPattern() {
        StreamWatcher x = Sentences.busy(9);
        for (int p : Sentences.notZeroToThree()) {
            due("item(" + p + ", 1, 0)", x.item(p, 1, ONCE), NONE);
            due("item(" + p + ", 0, 4)", x.item(p, 0, 4), NONE);
        }
        about.same("items of no pattern", x, Sentences.busy(9));
        due("item(0, 1, 0), the least pattern", x.item(0, 1, ONCE), 4);
        due("item(3, 1, 0), the greatest pattern", x.item(3, 1, ONCE), 2);
    }

    private static void itemOfNoSet() {
        StreamWatcher x = Sentences.busy(9);
        for (int set : Sentences.notASet()) {
            for (int p = 0; p < 4; p++) {
                due("item(" + p + ", " + set + ", 2)", x.item(p, set, ANY), NONE);
            }
        }
        about.same("items of no set", x, Sentences.busy(9));
        StreamWatcher empty = new StreamWatcher();
        due("item(0, 16, 2) of an empty pattern", empty.item(0, 16, ANY), NONE);
        about.same("an item of no set", empty, new StreamWatcher());
        due("item(0, 1, 2), the least set", x.item(0, 1, ANY), 4);
        due("item(0, 15, 2), the greatest set", x.item(0, 15, ANY), 5);
    }

    private static void itemOfNoCount() {
        StreamWatcher x = Sentences.busy(9);
        for (int count : Sentences.notZeroToThree()) {
            for (int p = 0; p < 4; p++) {
                due("item(" + p + ", 15, " + count + ")", x.item(p, 15, count), NONE);
            }
        }
        about.same("items of no count", x, Sentences.busy(9));
        StreamWatcher empty = new StreamWatcher();
        due("item(0, 15, 4) of an empty pattern", empty.item(0, 15, 4), NONE);
        about.same("an item of no count", empty, new StreamWatcher());
        due("item(0, 1, 0), the least count", x.item(0, 1, ONCE), 4);
        due("item(0, 1, 3), the greatest count", x.item(0, 1, SOME), 5);
    }

    private static void itemOfFullPattern() {
        StreamWatcher x = Sentences.busy(9);
        for (int set = 15; set >= 1; set--) {
            for (int count = 0; count <= 3; count++) {
                due("item(2, " + set + ", " + count + ")", x.item(2, set, count), FULL);
            }
        }
        about.same("a seventh item", x, Sentences.busy(9));
        due("drop(2)", x.drop(2), 5);
        due("item(2, 10, 1) after drop", x.item(2, 10, OPTIONAL), 6);
        due("item(2, 10, 1) again", x.item(2, 10, OPTIONAL), FULL);
        x.item(0, 1, ONCE);
        x.item(0, 1, ONCE);
        due("a sixth item", x.item(0, 1, ONCE), 6);
        due("a seventh", x.item(0, 1, ONCE), FULL);
    }

    private static void itemAnswersNumber() {
        for (int p = 0; p < 4; p++) {
            StreamWatcher x = new StreamWatcher();
            for (int n = 1; n <= 6; n++) {
                due("item " + n + " of " + p, x.item(p, 15, ONCE), n);
            }
            for (int n = 5; n >= 0; n--) {
                x.drop(p);
                due("item after drop to " + n, x.item(p, 15, ONCE), n + 1);
                x.drop(p);
            }
        }
    }

    /** From six to none: the first n of the symbols are a match when n items are left. */
    private static void dropTakesLast() {
        for (int p = 0; p < 4; p++) {
            StreamWatcher x = Sentences.with(p, 1, ONCE, 2, ONCE, 4, ONCE, 8, ONCE, 1, ONCE, 2, ONCE);
            Sentences.pushAll(x, 0, 1, 2, 3, 0, 1);
            for (int n = 5; n >= 1; n--) {
                x.drop(p);
                due("endingAt(" + (n - 1) + ") with " + n, x.endingAt(n - 1), 1 << p);
                due("endingAt(" + n + ") with " + n, x.endingAt(n), 0);
            }
            x.drop(p);
            due("emptyFits() with 0", x.emptyFits(), 15);
            due("endingAt(0) with 0", x.endingAt(0), 0);
        }
    }

    private static void dropAnswersNumber() {
        StreamWatcher x = new StreamWatcher();
        for (int n = 0; n < 24; n++) {
            x.item(n % 4, 15, SOME);
        }
        for (int p = 3; p >= 0; p--) {
            for (int n = 5; n >= 0; n--) {
                due("drop(" + p + ")", x.drop(p), n);
            }
        }
    }

    private static void dropOfNoPattern() {
        StreamWatcher x = Sentences.busy(9);
        for (int p : Sentences.notZeroToThree()) {
            due("drop(" + p + ")", x.drop(p), NONE);
        }
        about.same("drop of no pattern", x, Sentences.busy(9));
    }

    private static void dropOfNone() {
        StreamWatcher empty = new StreamWatcher();
        for (int p = 0; p < 4; p++) {
            due("drop(" + p + "), never an item", empty.drop(p), NONE);
        }
        about.same("drop of none", empty, new StreamWatcher());
        StreamWatcher x = Sentences.busy(9);
        StreamWatcher twin = Sentences.busy(9);
        x.drop(3);
        twin.drop(3);
        due("drop(3), none left", x.drop(3), NONE);
        due("drop(3) again", x.drop(3), NONE);
        about.same("drop of none", x, twin);
        due("drop(1), its only item", x.drop(1), 0);
        due("drop(1), none left", x.drop(1), NONE);
        due("items(1)", x.items(1), 0);
        due("items(0)", x.items(0), 3);
        due("item(1, ..) after it", x.item(1, 1, ONCE), 1);
    }

    private static void itemsFromNoneToSix() {
        for (int p = 0; p < 4; p++) {
            StreamWatcher x = new StreamWatcher();
            for (int n = 0; n <= 6; n++) {
                for (int q = 0; q < 4; q++) {
                    due("items(" + q + ")", x.items(q), q == p ? n : 0);
                }
                x.item(p, 15, ANY);
            }
            due("items(" + p + ") after a seventh", x.items(p), 6);
            x.push(0);
            x.reset();
            due("items(" + p + ") after reset", x.items(p), 6);
        }
    }

    private static void itemsOfNoPattern() {
        StreamWatcher x = Sentences.busy(9);
        for (int p : Sentences.notZeroToThree()) {
            due("items(" + p + ")", x.items(p), NONE);
        }
        about.same("items of no pattern", x, Sentences.busy(9));
    }

    private static void pushOfNoSymbol() {
        for (int taken : new int[] {0, 1, 4, 7, 9, 59}) {
            StreamWatcher x = Sentences.busy(taken);
            for (int s : Sentences.notZeroToThree()) {
                due("push(" + s + "), " + taken + " taken", x.push(s), NONE);
            }
            about.same("push of no symbol", x, Sentences.busy(taken));
        }
    }

    private static void pushWhen60AreTaken() {
        StreamWatcher x = Sentences.busy(59);
        due("push of the 60th", x.push(0), 14);
        for (int s = 0; s < 4; s++) {
            due("push(" + s + ") with 60 taken", x.push(s), FULL);
        }
        StreamWatcher twin = Sentences.busy(59);
        twin.push(0);
        about.same("push of a 61st", x, twin);
        x.reset();
        due("push after reset", x.push(0), 14);
    }

    /** None, each and all; at the first place, after others, and at the last place. */
    private static void pushAnswersPatterns() {
        for (int t = 0; t < MOST; t++) {
            StreamWatcher x = Sentences.with(0, 1, ONCE);
            x.item(1, 3, ONCE);
            x.item(2, 5, ONCE);
            x.item(3, 7, SOME);
            Sentences.pushTimes(x, 3, t);
            int[] want = {15, 10, 12, 0};
            due("push(" + t % 4 + ") at " + t, x.push(t % 4), want[t % 4]);
        }
        StreamWatcher x = new StreamWatcher();
        due("push with empty patterns", x.push(0), 0);
    }

    /** After every reset the first symbol has nothing before it, whatever was there. */
    private static void resetForgets() {
        for (int taken : new int[] {0, 1, 2, 59, 60}) {
            StreamWatcher x = Sentences.busy(taken);
            x.reset();
            about.same("reset with " + taken + " taken", x, Sentences.busy(0));
            x.reset();
            due("taken() after two resets", x.taken(), 0);
            due("push(2), a last symbol of pattern 0", x.push(2), 12);
            due("earliest(2, 0)", x.earliest(2, 0), 0);
        }
        StreamWatcher x = Sentences.busy(60);
        x.reset();
        for (int n = 1; n <= MOST; n++) {
            due("push " + n + " after reset", x.push(3), 12);
        }
        due("push 61 after reset", x.push(3), FULL);
    }

    private static void resetKeepsPatterns() {
        StreamWatcher x = Sentences.busy(60);
        x.reset();
        int[] items = {3, 1, 6, 1};
        for (int p = 0; p < 4; p++) {
            due("items(" + p + ")", x.items(p), items[p]);
        }
        due("emptyFits()", x.emptyFits(), 4);
        due("item of a full pattern", x.item(2, 1, ONCE), FULL);
        due("push(0)", x.push(0), 14);
        due("push(1)", x.push(1), 14);
        due("push(2)", x.push(2), 13);
    }

    private static void takenFromNoneTo60() {
        StreamWatcher x = new StreamWatcher();
        due("taken() at first", x.taken(), 0);
        for (int n = 1; n <= MOST; n++) {
            x.push(n % 4);
            due("taken() after " + n, x.taken(), n);
        }
        x.reset();
        due("taken() after reset", x.taken(), 0);
        x.push(0);
        due("taken() after reset and push", x.taken(), 1);
    }

    private static void takenWithoutRefused() {
        StreamWatcher x = new StreamWatcher();
        x.push(-1);
        x.push(4);
        due("taken() after NONE", x.taken(), 0);
        Sentences.pushTimes(x, 0, MOST);
        x.push(0);
        due("taken() after FULL", x.taken(), 60);
        x.push(4);
        due("taken() after NONE, 60 taken", x.taken(), 60);
        x.completing(0);
        due("taken() after completing", x.taken(), 60);
    }

    private static void itemNoneBeforeFull() {
        StreamWatcher x = new StreamWatcher();
        for (int n = 0; n < 24; n++) {
            x.item(n % 4, 15, ONCE);
        }
        for (int p = 0; p < 4; p++) {
            due("item(" + p + ", 1, 0), full", x.item(p, 1, ONCE), FULL);
            for (int set : Sentences.notASet()) {
                due("item(" + p + ", " + set + ", 0), full", x.item(p, set, ONCE), NONE);
            }
            for (int count : Sentences.notZeroToThree()) {
                due("item(" + p + ", 1, " + count + "), full", x.item(p, 1, count), NONE);
            }
            due("items(" + p + ")", x.items(p), 6);
        }
        for (int p : Sentences.notZeroToThree()) {
            due("item(" + p + ", 1, 0), all full", x.item(p, 1, ONCE), NONE);
        }
    }

    private static void pushNoneBeforeFull() {
        StreamWatcher x = Sentences.busy(60);
        due("push(3), full", x.push(3), FULL);
        for (int s : Sentences.notZeroToThree()) {
            due("push(" + s + "), full", x.push(s), NONE);
        }
        about.same("push of no symbol, full", x, Sentences.busy(60));
    }
}
