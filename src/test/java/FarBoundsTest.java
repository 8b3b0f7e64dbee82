/**
 * Promises 14 to 21 where THE HAND's BOUNDS come near ANY, or go beyond it without their sign: there
 * a SUM may be written greater than ANY, is not tighter then, and the ZONE is CLOSED all the same.
 */
public final class FarBoundsTest extends YardCheck {
    /** The STATE that bounds CLOCK 3 from below, and leaves the differences free. */
    private static final int WAITED = 6;

    public static void main(String[] args) {
        says("THE HAND's ZONE near ANY");
        theYard();
        sumsBesideAny();
        tightenedIsClosed();
        tightenedBecomesEmpty();
        metIsClosed();
        letGo();
        passedAndSet();
        farBelow();
        end("far bounds are as due");
    }

    /** STATE k, from 7 on: CLOCK 2 leads CLOCK 3 by at most (exact: just) 100 (k - 4). */
    private static TimedYard yard(boolean exact) {
        TimedYard x = new TimedYard();
        x.machine();
        for (int p = 0; p < 5; p++) {
            x.place(0);
        }
        x.way(0, 0, 1, 0, 6);
        x.way(0, 1, 1, 0, 4);
        x.test(0, 1, 12, 100, false);
        x.test(0, 1, 14, 0, false);
        if (exact) {
            x.test(0, 1, 3, -100, false);
        }
        x.way(0, 0, 2, 0, 6);
        x.way(0, 2, 3, 0, 4);
        x.way(0, 3, 4, 0, 0);
        x.test(0, 4, 3, -100, false);
        x.walk();
        x.hand(1, 0);
        x.pass();
        x.set(4);
        return x;
    }

    /** CLOCK 1 comes to lead CLOCK 2 by what STATE k tells of CLOCKS 2 and 3, or by up to that. */
    private static void grow(TimedYard x, int k) {
        x.meet(k);
        x.set(6);
        x.pass();
        x.set(4);
    }

    /** Of CLOCKS 1, 2 at most 499800, else only that 1 is not below 2, and 2 not below 3. */
    private static TimedYard far() {
        TimedYard x = yard(false);
        for (int n = 0; n < 25; n++) {
            grow(x, 199);
        }
        grow(x, 127);
        x.pass();
        return x;
    }

    private static void theYard() {
        TimedYard x = yard(false);
        due("count(1)", x.count(1), 200);
        due("seen(4, -1, -1)", x.seen(4, -1, -1), WAITED);
        due("bound(6, 0, 3)", x.bound(WAITED, 0, 3), -199);
        due("bound(6, 2, 3)", x.bound(WAITED, 2, 3), A);
        due("bound(199, 2, 3)", x.bound(199, 2, 3), 39001);
        due("bound(127, 2, 3)", x.bound(127, 2, 3), 24601);
        due("bound(199, 3, 2)", x.bound(199, 3, 2), 1);
        due("exact bound(199, 3, 2)", yard(true).bound(199, 3, 2), -38999);
        dueHand(far(), "far:", 1, 1, 1, 1, A, 1, 999601, A, A, 1, 1, A, A, 1, 1, 1);
    }

    /** At most 499999 is the greatest that is tighter than ANY; below 500000 is written as ANY. */
    private static void sumsBesideAny() {
        TimedYard x = far();
        due("tighten(2, 0, 200, false)", x.tighten(2, 0, 200, false), 0);
        dueHand(x, "at most 500000:", 1, 1, 1, 1, A, 1, 999601, A, 401, 1, 1, 401, 401, 1, 1, 1);
        due("tighten(2, 0, 200, true)", x.tighten(2, 0, 200, true), 0);
        dueHand(x, "below 500000:", 1, 1, 1, 1, A, 1, 999601, A, 400, 1, 1, 400, 400, 1, 1, 1);
        due("tighten(2, 0, 199, false)", x.tighten(2, 0, 199, false), 0);
        dueHand(x, "at most 499999:", 1, 1, 1, 1, 999999, 1, 999601, 999999, 399, 1, 1, 399,
            399, 1, 1, 1);
    }

    /** CLOCKS 1, 0: 499800 and 400 are too much; CLOCKS 1, 3: 499800 and 400 less 400 are not. */
    private static TimedYard tightened() {
        TimedYard x = far();
        due("tighten(2, 0, 400, false)", x.tighten(2, 0, 400, false), 0);
        due("tighten(0, 3, -400, false)", x.tighten(0, 3, -400, false), 0);
        return x;
    }

    private static void tightenedIsClosed() {
        TimedYard x = tightened();
        dueHand(x, "tightened:", 1, -799, -799, -799, A, 1, 999601, 999601, 801, 1, 1, 1,
            801, 1, 1, 1);
        due("within(199)", x.within(199), 1);
        due("within(0)", x.within(0), 0);
        due("tighten(2, 0, 400, false) again", x.tighten(2, 0, 400, false), 0);
        dueHand(x, "again:", 1, -799, -799, -799, A, 1, 999601, 999601, 801, 1, 1, 1, 801, 1, 1, 1);
    }

    private static void tightenedBecomesEmpty() {
        TimedYard x = tightened();
        due("tighten(2, 1, -400, false)", x.tighten(2, 1, -400, false), 0);
        dueHand(x, "apart:", 1, -1599, -799, -799, A, 1, 999601, 999601, 801, -799, 1, 1,
            801, -799, 1, 1);
        due("tighten(1, 3, 400, true)", x.tighten(1, 3, 400, true), 1);
        due("handBound(1, 2)", x.handBound(1, 2), -2000000);
    }

    /** CLOCKS 2, 3: 250 less the 100 of the STATE; so CLOCKS 1, 3: 499800 and 150. */
    private static TimedYard met() {
        TimedYard x = far();
        due("tighten(2, 0, 250, false)", x.tighten(2, 0, 250, false), 0);
        dueHand(x, "to be met:", 1, 1, 1, 1, A, 1, 999601, A, 501, 1, 1, 501, 501, 1, 1, 1);
        due("meet(6)", x.meet(WAITED), 0);
        return x;
    }

    private static void metIsClosed() {
        TimedYard x = met();
        dueHand(x, "met:", 1, -199, -199, -199, A, 1, 999601, 999901, 501, 1, 1, 301, 501, 1, 1, 1);
        due("within(6)", x.within(WAITED), 1);
        due("meet(6) again", x.meet(WAITED), 0);
        due("handBound(1, 3)", x.handBound(1, 3), 999901);
        // CLOCK 3 would be at most 0.
        due("set(4)", x.set(4), 0);
        due("meet(6)", x.meet(WAITED), 1);
    }

    private static void letGo() {
        TimedYard x = met();
        due("letGo(200, 150, 0)", x.letGo(200, 150, 0), 0);
        dueHand(x, "let go:", 1, -199, -199, 0, A, 1, A, A, A, 1, 1, 301, A, 1, 1, 1);
        TimedYard y = tightened();
        due("letGo(0, 200, 200)", y.letGo(0, 200, 200), 0);
        // CLOCK 1 is above CLOCK 3, as that is above 200 and not above CLOCK 1.
        dueHand(y, "let go:", 1, -400, -400, -400, A, 1, A, A, A, 1, 1, 1, A, 1, 1, 1);
    }

    private static void passedAndSet() {
        TimedYard x = tightened();
        due("pass()", x.pass(), 0);
        dueHand(x, "passed:", 1, -799, -799, -799, A, 1, 999601, 999601, A, 1, 1, 1, A, 1, 1, 1);
        due("set(4)", x.set(4), 0);
        dueHand(x, "set(4):", 1, -799, -799, 1, A, 1, 999601, A, A, 1, 1, A, 1, -799, -799, 1);
        TimedYard y = far();
        y.tighten(2, 0, 200, false);
        due("set(2)", y.set(2), 0);
        dueHand(y, "set(2):", 1, 1, 1, 1, A, 1, A, A, 1, 1, 1, 1, 401, 1, 401, 1);
    }

    /** No BOUND is too far below 0, and none of them says that the ZONE is EMPTY. */
    private static void farBelow() {
        TimedYard x = yard(true);
        for (int n = 0; n < 25; n++) {
            grow(x, 199);
        }
        x.pass();
        dueHand(x, "25 times:", 1, -974999, 1, 1, A, 1, 975001, A, A, -974999, 1, A,
            A, -974999, 1, 1);
        x.set(4);
        grow(x, 199);
        x.pass();
        dueHand(x, "26 times:", 1, -1013999, 1, 1, A, 1, A, A, A, -1013999, 1, A,
            A, -1013999, 1, 1);
        x.set(4);
        for (int n = 0; n < 26; n++) {
            grow(x, 199);
        }
        due("handBound(0, 1)", x.handBound(0, 1), -2027999);
        due("pass()", x.pass(), 0);
        due("within(6)", x.within(WAITED), 0);
        due("within(1)", x.within(1), 0);
        due("letGo(200, 200, 199)", x.letGo(200, 200, 199), 0);
        dueHand(x, "let go:", 1, -400, 1, 1, A, 1, A, A, A, -400, 1, A, A, -400, 1, 1);
        due("tighten(1, 0, 200, false)", x.tighten(1, 0, 200, false), 1);
    }
}
