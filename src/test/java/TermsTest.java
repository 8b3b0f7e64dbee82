/** The sentences of the Terms that name an edge, each on both of its sides. */
public final class TermsTest extends YardCheck {
    public static void main(String[] args) {
        newObject();
        boundsAreNumbers();
        sums();
        noClockBelowZero();
        emptyOrNot();
        emptyStaysSo();
        emptyComesBack();
        tightened();
        passed();
        set();
        setBoth();
        letGoAbove();
        letGoBelow();
        letGoOfTwo();
        letGoIsClosed();
        within();
        meets();
        end("the terms of zones hold");
    }

    private static TimedYard tight(int i, int j, int c, boolean below) {
        TimedYard x = new TimedYard();
        due("tighten(" + i + ", " + j + ", " + c + ", " + below + ")", x.tighten(i, j, c, below), 0);
        return x;
    }

    private static void newObject() {
        says("No MACHINES; THE HAND's ZONE is all times; there was no walk");
        TimedYard x = new TimedYard();
        dueHand(x, "new:", 1, 1, 1, 1, A, 1, A, A, A, A, 1, A, A, A, A, 1);
        due("place(0)", x.place(0), -1);
        due("walk()", x.walk(), -1);
        due("seen(-1, -1, -1)", x.seen(-1, -1, -1), -2);
        due("state(0, 0)", x.state(0, 0), -1);
        says("SHELVES 0 .. 7 each hold nothing (at first)");
        for (int d = 0; d < 8; d++) {
            int shelf = d;
            due("weight(" + d + ")", x.weight(d), -11);
            due("toss(" + d + ")", x.toss(d), -11);
            due("copy(" + d + ", ..)", x.copy(d, 0, d, 0, 0), -11);
            due("element(" + d + ", 0)", x, y -> y.element(shelf, 0), STATE);
        }
        says("The constants: ANY = 1000000");
        due("ANY", TimedYard.ANY, 1000000);
    }

    private static void boundsAreNumbers() {
        says("It is written as 2 c + 1 (at most), 2 c (below), ANY as 1000000");
        int[] numbers = {-400, -399, -1, 0, 1, 399, 400};
        for (int c : numbers) {
            due("at most " + c, tight(1, 2, c, false).handBound(1, 2), 2 * c + 1);
            due("below " + c, tight(1, 2, c, true).handBound(1, 2), 2 * c);
        }
        due("nothing", tight(1, 2, 5, false).handBound(2, 1), 1000000);
    }

    private static void sums() {
        for (int mixture = 0; mixture < 4; mixture++) {
            boolean first = mixture % 2 == 1;
            boolean second = mixture / 2 == 1;
            says("of the sum of their numbers c, at most if both are so, else below");
            int[][] told = {{3, 4, 7}, {-3, -4, -7}, {3, -4, -1}, {-3, 4, 1}, {0, 0, 0}, {400, 400, 800}};
            for (int[] t : told) {
                TimedYard x = tight(1, 2, t[0], first);
                x.tighten(2, 3, t[1], second);
                due(t[0] + " and " + t[1], x.handBound(1, 3), 2 * t[2] + (mixture == 0 ? 1 : 0));
            }
            says("The SUM of two BOUNDS: ANY, if one is");
            TimedYard y = tight(1, 2, -400, first);
            due("handBound(1, 3)", y.handBound(1, 3), A);
            due("handBound(3, 2)", y.handBound(3, 2), A);
            due("handBound(1, 0)", y.handBound(1, 0), A);
        }
        says("CLOSED: for k = 0 .. 3");
        // By each CLOCK between two others, by CLOCK 0 and CLOCK 3 too.
        int[][] paths = {{1, 0, 2}, {1, 3, 2}, {2, 1, 3}, {3, 2, 1}, {0, 3, 1}, {0, 1, 2}, {3, 1, 0}};
        for (int[] p : paths) {
            TimedYard x = tight(p[0], p[1], p[0] == 0 ? -7 : 7, false);
            due("tighten", x.tighten(p[1], p[2], p[1] == 0 ? -2 : 2, false), 0);
            due("by CLOCK " + p[1], x.handBound(p[0], p[2]),
                2 * ((p[0] == 0 ? -7 : 7) + (p[1] == 0 ? -2 : 2)) + 1);
        }
        // Four CLOCKS in a row, told in each order.
        int[][] orders = {{0, 1, 2}, {0, 2, 1}, {1, 0, 2}, {1, 2, 0}, {2, 0, 1}, {2, 1, 0}};
        int[][] rows = {{1, 2, 3, 0}, {3, 2, 1, 0}, {2, 3, 1, 0}, {1, 3, 2, 0}};
        for (int[] row : rows) {
            for (int[] order : orders) {
                TimedYard x = new TimedYard();
                for (int at : order) {
                    x.tighten(row[at], row[at + 1], 10 + at, false);
                }
                due("a row of four", x.handBound(row[0], row[3]), 67);
            }
        }
    }

    private static void noClockBelowZero() {
        says("A ZONE has .. at least those that say that no CLOCK is below 0");
        for (int clock = 1; clock < 4; clock++) {
            TimedYard x = new TimedYard();
            due("tighten to at most 1", x.tighten(0, clock, 1, false), 0);
            due("handBound(0, " + clock + ")", x.handBound(0, clock), 1);
            due("tighten to below 1", x.tighten(0, clock, 1, true), 0);
            due("handBound(0, " + clock + ")", x.handBound(0, clock), 1);
            due("tighten to at most 0", x.tighten(0, clock, 0, false), 0);
            due("handBound(0, " + clock + ")", x.handBound(0, clock), 1);
            due("tighten to below 0", x.tighten(0, clock, 0, true), 0);
            due("handBound(0, " + clock + ")", x.handBound(0, clock), 0);
        }
    }

    private static void emptyOrNot() {
        says("It is EMPTY if then one of a CLOCK and itself is tighter than at most 0");
        for (int clock = 1; clock < 4; clock++) {
            due("at most 0", new TimedYard().tighten(clock, 0, 0, false), 0);
            due("below 0", new TimedYard().tighten(clock, 0, 0, true), 1);
            due("at most -1", new TimedYard().tighten(clock, 0, -1, false), 1);
            due("at least 5, at most 5", tight(clock, 0, 5, false).tighten(0, clock, -5, false), 0);
            due("above 5, at most 5", tight(clock, 0, 5, false).tighten(0, clock, -5, true), 1);
            due("at least 5, below 5", tight(clock, 0, 5, true).tighten(0, clock, -5, false), 1);
            due("at least 6, at most 5", tight(clock, 0, 5, false).tighten(0, clock, -6, false), 1);
            due("above 4, below 5", tight(clock, 0, 5, true).tighten(0, clock, -4, true), 0);
            due("at least 4, below 5", tight(clock, 0, 5, true).tighten(0, clock, -4, false), 0);
        }
        // In a ring of three CLOCKS: 3, -1 and -2.
        for (int mixture = 0; mixture < 8; mixture++) {
            TimedYard x = tight(1, 2, 3, mixture % 2 == 1);
            x.tighten(2, 3, -1, mixture / 2 % 2 == 1);
            due("a ring of 0", x.tighten(3, 1, -2, mixture / 4 == 1), mixture == 0 ? 0 : 1);
        }
        TimedYard y = tight(1, 2, 3, false);
        y.tighten(2, 3, -1, false);
        due("a ring of -1", y.tighten(3, 1, -3, false), 1);
        says("an EMPTY one's are all -2000000");
        dueEmpty(y, "a ring of -1:");
    }

    /** One yard whose STATE 1 bounds what it can. */
    private static TimedYard withStates() {
        TimedYard x = withMachines(2);
        x.limit(0, 0, 1, 5, false);
        x.way(0, 0, 1, 0, 2);
        x.test(0, 0, 1, -3, false);
        x.walk();
        return x;
    }

    private static void emptyStaysSo() {
        says("(An EMPTY one stays so here and below.)");
        Call[] calls = {x -> x.tighten(1, 0, 400, false), x -> x.tighten(0, 3, 400, true),
            TimedYard::pass, x -> x.set(0), x -> x.set(1), x -> x.set(7), x -> x.letGo(0, 0, 0),
            x -> x.letGo(200, 200, 200), x -> x.meet(0), x -> x.meet(1)};
        for (int way = 0; way < 3; way++) {
            for (int n = 0; n < calls.length; n++) {
                TimedYard x = withStates();
                if (way == 0) {
                    x.hand(3, 0);
                } else if (way == 1) {
                    x.tighten(1, 0, 0, true);
                } else {
                    x.hand(1, 0);
                    x.meet(1);
                }
                due("call " + n + " of an EMPTY one", x, calls[n], 1);
                dueEmpty(x, "then");
                due("again call " + n, x, calls[n], 1);
                due("pass()", x.pass(), 1);
                due("set(7)", x.set(7), 1);
                says("within: an EMPTY one does: 1");
                due("within(0)", x.within(0), 1);
                due("within(1)", x.within(1), 1);
                says("(An EMPTY one stays so here and below.)");
            }
        }
    }

    private static void emptyComesBack() {
        says("hand: THE HAND's ZONE becomes: 0 all times, 1 all CLOCKS 0, 2 that of STATE k, 3 EMPTY");
        for (int before = 0; before < 4; before++) {
            TimedYard x = withStates();
            x.hand(before, 1);
            due("hand(0, -1)", x.hand(0, -1), 0);
            dueHand(x, "all times:", 1, 1, 1, 1, A, 1, A, A, A, A, 1, A, A, A, A, 1);
            x.hand(before, 1);
            due("hand(1, -1)", x.hand(1, -1), 0);
            dueHand(x, "all 0:", 1, 1, 1, 1, 1, 1, 1, 1, 1, 1, 1, 1, 1, 1, 1, 1);
            x.hand(before, 1);
            due("hand(2, 0)", x.hand(2, 0), 0);
            dueHand(x, "STATE 0:", 1, 1, 1, 1, 11, 1, 1, 1, 11, 1, 1, 1, 11, 1, 1, 1);
            due("within(0)", x.within(0), 3);
            x.hand(before, 1);
            due("hand(3, -1)", x.hand(3, -1), 0);
            dueEmpty(x, "EMPTY:");
        }
    }

    private static void tightened() {
        says("of two the lesser number is the tighter one");
        TimedYard x = tight(1, 0, 8, false);
        int[][] told = {{9, 0, 17}, {9, 1, 17}, {8, 0, 17}, {8, 1, 16}, {8, 0, 16}, {7, 0, 15}, {8, 1, 15},
            {7, 1, 14}, {7, 1, 14}};
        for (int[] t : told) {
            due("tighten(1, 0, " + t[0] + ")", x.tighten(1, 0, t[0], t[1] == 1), 0);
            due("handBound(1, 0)", x.handBound(1, 0), t[2]);
        }
    }

    private static void passed() {
        says("PASSED (any time): all BOUNDS of i, 0 (i not 0) become ANY");
        TimedYard x = tight(1, 0, 0, false);
        x.tighten(0, 2, -3, true);
        x.tighten(2, 0, 400, false);
        x.tighten(3, 0, 9, true);
        due("pass()", x.pass(), 0);
        dueHand(x, "passed:", 1, 1, -6, 1, A, 1, -6, 1, A, 801, 1, 801, A, 18, 12, 1);
        due("pass()", x.pass(), 0);
        dueHand(x, "passed:", 1, 1, -6, 1, A, 1, -6, 1, A, 801, 1, 801, A, 18, 12, 1);
    }

    private static void set() {
        says("SET: BOUNDS of i, j become those of 0, j, BOUNDS of j, i those of j, 0");
        TimedYard x = tight(1, 0, 9, false);
        x.tighten(0, 1, -2, true);
        x.tighten(0, 3, -4, false);
        due("set(2)", x.set(2), 0);
        dueHand(x, "set(2):", 1, -4, 1, -7, 19, 1, 19, 11, 1, -4, 1, -7, A, A, A, 1);
        due("set(0)", x.set(0), 0);
        dueHand(x, "set(0):", 1, -4, 1, -7, 19, 1, 19, 11, 1, -4, 1, -7, A, A, A, 1);
        TimedYard y = new TimedYard();
        due("set(1) of all times", y.set(1), 0);
        dueHand(y, "set(1):", 1, 1, 1, 1, 1, 1, 1, 1, A, A, 1, A, A, A, A, 1);
        due("set(4)", y.set(4), 0);
        dueHand(y, "set(4):", 1, 1, 1, 1, 1, 1, 1, 1, A, A, 1, A, 1, 1, 1, 1);
    }

    private static void setBoth() {
        says("(of two that are both set: at most 0)");
        TimedYard x = tight(1, 2, -300, true);
        x.tighten(0, 1, -9, false);
        due("set(3)", x.set(3), 0);
        dueHand(x, "set(3):", 1, 1, 1, 1, 1, 1, 1, 1, 1, 1, 1, 1, A, A, A, 1);
        TimedYard y = tight(0, 3, -300, true);
        due("set(7)", y.set(7), 0);
        dueHand(y, "set(7):", 1, 1, 1, 1, 1, 1, 1, 1, 1, 1, 1, 1, 1, 1, 1, 1);
    }

    private static TimedYard letGo(TimedYard x, int clock, int greatest) {
        due("letGo", x.letGo(clock == 1 ? greatest : 200, clock == 2 ? greatest : 200,
            clock == 3 ? greatest : 200), 0);
        return x;
    }

    private static void letGoAbove() {
        says("LET GO: a BOUND of i, j with c above M(i), i not 0: ANY");
        for (int clock = 1; clock < 4; clock++) {
            int[][] told = {{5, 0, 5, 11}, {5, 1, 5, 10}, {6, 1, 5, A}, {6, 0, 5, A}, {4, 0, 5, 9},
                {0, 0, 0, 1}, {1, 1, 0, A}, {1, 0, 0, A}, {200, 0, 200, 401}, {201, 1, 200, A},
                {201, 0, 200, A}, {400, 0, 200, A}};
            for (int[] t : told) {
                TimedYard x = letGo(tight(clock, 0, t[0], t[1] == 1), clock, t[2]);
                due("of " + clock + ", 0: " + t[0] + " let go by " + t[2], x.handBound(clock, 0), t[3]);
                int other = clock % 3 + 1;
                TimedYard y = letGo(tight(clock, other, t[0], t[1] == 1), clock, t[2]);
                due("of two: " + t[0] + " let go by " + t[2], y.handBound(clock, other), t[3]);
            }
        }
    }

    private static void letGoBelow() {
        says("else one with c below the negative of M(j): below that negative");
        for (int clock = 1; clock < 4; clock++) {
            int[][] told = {{-5, 0, 5, -9}, {-5, 1, 5, -10}, {-6, 0, 5, -10}, {-6, 1, 5, -10},
                {-4, 1, 5, -8}, {0, 0, 0, 1}, {0, 1, 0, 0}, {-1, 0, 0, 0}, {-1, 1, 0, 0}, {-200, 0, 200, -399},
                {-200, 1, 200, -400}, {-201, 0, 200, -400}, {-400, 1, 200, -400}, {-400, 1, 0, 0}};
            for (int[] t : told) {
                TimedYard x = letGo(tight(0, clock, t[0], t[1] == 1), clock, t[2]);
                due("of 0, " + clock + ": " + t[0] + " let go by " + t[2], x.handBound(0, clock), t[3]);
            }
        }
        says("LET GO (and no CLOCK is below 0 all the same)");
        TimedYard x = new TimedYard();
        due("letGo(0, 0, 0)", x.letGo(0, 0, 0), 0);
        dueHand(x, "all times:", 1, 1, 1, 1, A, 1, A, A, A, A, 1, A, A, A, A, 1);
        x.hand(1, 0);
        due("letGo(0, 0, 0)", x.letGo(0, 0, 0), 0);
        dueHand(x, "all 0:", 1, 1, 1, 1, 1, 1, 1, 1, 1, 1, 1, 1, 1, 1, 1, 1);
    }

    /** By M(j), not by M(i): CLOCK 2 leads CLOCK 1. */
    private static void letGoOfTwo() {
        says("one with c below the negative of M(j), of two CLOCKS");
        int[][] told = {{-5, 0, 5, -9}, {-5, 1, 5, -10}, {-6, 0, 5, -10}, {-6, 1, 5, -10}, {-4, 0, 5, -7}};
        for (int[] t : told) {
            for (int first = 0; first < 201; first += 100) {
                TimedYard x = tight(1, 2, t[0], t[1] == 1);
                due("letGo(" + first + ", 5, 0)", x.letGo(first, 5, 0), 0);
                due("of 1, 2: " + t[0] + " let go by 5", x.handBound(1, 2), t[3]);
                due("of 0, 2", x.handBound(0, 2), t[3]);
            }
        }
    }

    private static void letGoIsClosed() {
        says("What follows .. gives CLOSED ones: LET GO");
        TimedYard x = new TimedYard();
        x.hand(1, 0);
        x.pass();
        x.tighten(1, 0, 9, false);
        // Of CLOCKS 2 and 3 what is above 0 is let go, and comes back by CLOCK 1, which they equal.
        due("letGo(9, 0, 0)", x.letGo(9, 0, 0), 0);
        dueHand(x, "let go:", 1, 1, 1, 1, 19, 1, 1, 1, 19, 1, 1, 1, 19, 1, 1, 1);
        due("letGo(8, 8, 8)", x.letGo(8, 8, 8), 0);
        dueHand(x, "let go:", 1, 1, 1, 1, A, 1, 1, 1, A, 1, 1, 1, A, 1, 1, 1);
    }

    private static void within() {
        says("It lies WITHIN another one if none of its BOUNDS is looser");
        TimedYard x = withStates();
        due("all times", x.within(0), 2);
        x.hand(2, 0);
        due("the same", x.within(0), 3);
        int[][] tighter = {{1, 0, 5, 1}, {0, 1, 0, 1}, {0, 3, -1, 0}};
        for (int[] t : tighter) {
            x.hand(2, 0);
            due("tighten", x.tighten(t[0], t[1], t[2], t[3] == 1), 0);
            due("one BOUND tighter", x.within(0), 1);
        }
        // Clocks 1 and 2 at most 5, and each its own time.
        for (int looser = 1; looser < 4; looser++) {
            x.hand(0, 0);
            for (int clock = 1; clock < 4; clock++) {
                x.tighten(clock, 0, clock == looser ? 6 : 5, clock == looser);
            }
            due("looser", x.within(0), 2);
            x.tighten(0, looser, 0, true);
            due("one looser, one tighter", x.within(0), 0);
        }
    }

    private static void meets() {
        says("meet: It becomes what is in it and in STATE k's ZONE: whether it is EMPTY");
        TimedYard x = withStates();
        // STATE 0: CLOCK 1 at most 5. At most 5 and at least 5 meet, above 5 does not.
        x.tighten(0, 2, -5, false);
        due("meet(0)", x.meet(0), 0);
        dueHand(x, "met:", 1, -9, -9, -9, 11, 1, 1, 1, 11, 1, 1, 1, 11, 1, 1, 1);
        due("meet(0)", x.meet(0), 0);
        x.hand(0, 0);
        x.tighten(0, 2, -5, true);
        due("meet(0)", x.meet(0), 1);
        dueEmpty(x, "not met:");
        x.hand(0, 0);
        due("all times: meet(0)", x.meet(0), 0);
        due("within(0)", x.within(0), 3);
        due("bound(0, 0, 2)", x.bound(0, 0, 2), 1);
    }
}
