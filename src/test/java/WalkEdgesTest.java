/** The sentences on MACHINES, STATES and walks that name an edge, each on both of its sides. */
public final class WalkEdgesTest extends YardCheck {
    public static void main(String[] args) {
        theFirst();
        noStates();
        emptyByTests();
        emptyByLimits();
        setBeforeLimits();
        movesWithWords();
        wordsFromWhereBothStand();
        bothTestsAndSets();
        greatestNumbers();
        nothingIsLetGo();
        letGoInAWalk();
        lyingWithin();
        justTwoHundred();
        spentByTheLastMove();
        spentBeforeTheLastMove();
        countsToTheLast();
        placesOfStates();
        soonestMoments();
        soonestFarOff();
        stuckOrNot();
        leads();
        latestWalk();
        asItIsThen();
        weights();
        failures();
        end("the edges of walks hold");
    }

    private static void theFirst() {
        says("THE FIRST: all CLOCKS 0, TIGHTENED by the LIMITS, PASSED, TIGHTENED by the LIMITS");
        int[][] told = {{0, 0, 1}, {1, 1, 2}, {1, 0, 3}, {100, 1, 200}, {100, 0, 201}};
        for (int[] t : told) {
            TimedYard x = withMachines(1);
            x.limit(0, 0, 3, t[0], t[1] == 1);
            due("walk()", x.walk(), 1);
            dueBounds(x, 0, 1, 1, 1, 1, t[2], 1, 1, 1, t[2], 1, 1, 1, t[2], 1, 1, 1);
            due("soonest(0)", x.soonest(0), 0);
            due("stuck(0)", x.stuck(0), 1);
        }
        TimedYard x = withMachines(1, 1, 1);
        due("walk()", x.walk(), 1);
        dueBounds(x, 0, 1, 1, 1, 1, A, 1, 1, 1, A, 1, 1, 1, A, 1, 1, 1);
        for (int m = 0; m < 3; m++) {
            TimedYard y = withMachines(2, 2, 2);
            y.limit(m, 1, 1, 0, true);
            due("walk() with a LIMIT elsewhere", y.walk(), 1);
            y.limit(m, 0, 1, 7, false);
            y.walk();
            due("bound(0, 1, 0)", y.bound(0, 1, 0), 15);
        }
    }

    private static void noStates() {
        says("(EMPTY THE FIRST: there are no STATES.)");
        for (int m = 0; m < 3; m++) {
            TimedYard x = withMachines(1, 1, 1);
            x.limit(m, 0, 2, 0, false);
            due("walk() with at most 0", x.walk(), 1);
            x.limit(m, 0, 2, 0, true);
            due("walk() with below 0", x.walk(), 0);
            for (int what = 1; what < 5; what++) {
                due("count(" + what + ")", x.count(what), 0);
            }
            due("count(0)", x.count(0), 3);
            due("state(0, 0)", x.state(0, 0), -1);
            due("bound(0, 0, 0)", x, y -> y.bound(0, 0, 0), ARGUMENT);
            due("seen(-1, -1, -1)", x.seen(-1, -1, -1), -2);
            due("lead(0, 0, 0)", x.lead(0, 0, 0), -1);
            due("soonest(0)", x.soonest(0), -1);
            due("stuck(0)", x.stuck(0), -1);
            due("hand(2, 0)", x.hand(2, 0), -1);
            due("meet(0)", x.meet(0), -1);
            due("within(0)", x.within(0), -1);
            due("keep(0, 4, 0, 0)", x.keep(0, 4, 0, 0), -1);
            // There was a walk, with MACHINES: a ROW of no shorts.
            due("keep(0, 3, 0, 0)", x.keep(0, 3, 0, 0), 0);
            due("element(0, 0)", x, y -> y.element(0, 0), STATE);
            due("copy(0, 0, 0, 0, 0)", x.copy(0, 0, 0, 0, 0), 0);
            due("copy(0, 0, 0, 0, 1)", x.copy(0, 0, 0, 0, 1), -13);
        }
    }

    private static void emptyByTests() {
        says("EMPTY at any time: it can't be (TESTS)");
        // CLOCK 1 is at most 5 at PLACE 0.
        int[][] told = {{1, -5, 0, 2}, {1, -5, 1, 1}, {1, -6, 0, 1}, {1, -4, 1, 2}, {4, 0, 0, 2},
            {4, 0, 1, 1}, {4, -1, 0, 1}, {6, 0, 0, 2}, {6, 0, 1, 1}, {6, -1, 0, 1}, {9, 0, 0, 2}, {9, 0, 1, 1}};
        for (int[] t : told) {
            TimedYard x = withMachines(2);
            x.limit(0, 0, 1, 5, false);
            x.way(0, 0, 1, 0, 0);
            x.test(0, 0, t[0], t[1], t[2] == 1);
            due("walk() with a TEST on " + t[0] + ", " + t[1], x.walk(), t[3]);
            due("state(0, 5)", x.state(0, 5), t[3] - 1);
        }
        // Two TESTS that can be met one by one only.
        TimedYard x = withMachines(2);
        x.way(0, 0, 1, 0, 0);
        x.test(0, 0, 4, 3, false);
        x.test(0, 0, 1, -3, false);
        due("walk() with at most 3, at least 3", x.walk(), 2);
        x.test(0, 0, 1, -3, true);
        due("walk() with at most 3, above 3", x.walk(), 1);
    }

    private static void emptyByLimits() {
        says("EMPTY at any time: it can't be (LIMITS of the new PLACES)");
        int[][] told = {{5, 0, 2}, {5, 1, 1}, {4, 0, 1}, {6, 1, 2}};
        for (int[] t : told) {
            TimedYard x = withMachines(2);
            x.way(0, 0, 1, 0, 0);
            x.test(0, 0, 1, -5, false);
            x.limit(0, 1, 1, t[0], t[1] == 1);
            due("walk() to a LIMIT of " + t[0], x.walk(), t[2]);
            // The LIMIT of a MACHINE that stays where it is.
            TimedYard y = withMachines(2, 1);
            y.way(0, 0, 1, 0, 0);
            y.test(0, 0, 1, -5, false);
            y.limit(1, 0, 1, t[0], t[1] == 1);
            due("walk() with a LIMIT of " + t[0], y.walk(), t[2]);
        }
    }

    private static void setBeforeLimits() {
        says("TIGHTENED by the TESTS, SET, TIGHTENED by the LIMITS of the new PLACES");
        for (int sets = 0; sets < 8; sets++) {
            for (int clock = 1; clock < 4; clock++) {
                TimedYard x = withMachines(2);
                x.way(0, 0, 1, 0, sets);
                x.test(0, 0, clock, -5, false);
                x.limit(0, 1, clock, 0, false);
                boolean isSet = (sets >> clock - 1 & 1) == 1;
                due("walk() when " + sets + " are set", x.walk(), isSet ? 2 : 1);
            }
        }
    }

    private static void movesWithWords() {
        says("a WAY that gives a WORD with one of another MACHINE that takes it");
        TimedYard x = withMachines(3, 3, 3);
        x.way(0, 0, 1, 9, 0);
        x.way(0, 0, 2, -9, 0);
        due("walk() with one MACHINE's own WORD", x.walk(), 1);
        x.way(2, 0, 1, -9, 0);
        due("walk()", x.walk(), 2);
        int[] taken = {0, 0, 2, 0};
        for (int what = 0; what < 4; what++) {
            due("lead(1, 0, " + what + ")", x.lead(1, 0, what), taken[what]);
        }
        x.way(1, 0, 1, 9, 0);
        due("walk()", x.walk(), 4);
        // MACHINE 0 gives to 2; 1 gives to 0; 1 gives to 2.
        int[][] moves = {{0, 0, 2, 0}, {1, 0, 0, 1}, {1, 0, 2, 0}};
        for (int k = 1; k < 4; k++) {
            for (int what = 0; what < 4; what++) {
                due("lead(" + k + ", 0, " + what + ")", x.lead(k, 0, what), moves[k - 1][what]);
            }
        }
        due("state(0, 5)", x.state(0, 5), 3);
    }

    private static void wordsFromWhereBothStand() {
        says("at one moment (.. from where both stand)");
        for (int from = 0; from < 2; from++) {
            for (int takesFrom = 0; takesFrom < 2; takesFrom++) {
                TimedYard x = withMachines(2, 2);
                x.way(0, from, 1, 1, 0);
                x.way(1, takesFrom, 1, -1, 0);
                due("walk() from " + from + ", " + takesFrom, x.walk(),
                    from == 0 && takesFrom == 0 ? 2 : 1);
            }
        }
    }

    private static void bothTestsAndSets() {
        says("at one moment (both TESTS; what either sets)");
        int[][] told = {{-3, 0, 3, 0, 2}, {-3, 1, 3, 0, 1}, {-3, 0, 3, 1, 1}, {-4, 0, 3, 0, 1}};
        for (int[] t : told) {
            TimedYard x = withMachines(2, 2);
            x.way(0, 0, 1, 5, 1);
            x.test(0, 0, 1, t[0], t[1] == 1);
            x.way(1, 0, 1, -5, 4);
            x.test(1, 0, 4, t[2], t[3] == 1);
            due("walk()", x.walk(), t[4]);
            if (t[4] == 2) {
                due("soonest(1)", x.soonest(1), 6);
                // CLOCKS 1 and 3 were set, CLOCK 2 is let go, above 0.
                dueBounds(x, 1, 1, 1, 0, 1, A, 1, 0, 1, A, A, 1, A, A, 1, 0, 1);
            }
        }
    }

    private static TimedYard withTest(int pair, int c) {
        TimedYard x = withMachines(2);
        x.way(0, 1, 1, 4, 0);
        x.test(0, 0, pair, c, false);
        x.walk();
        return x;
    }

    private static void greatestNumbers() {
        says("GREATEST of a CLOCK: the greatest c, without its sign, in LIMITS of it and in TESTS on it "
            + "and CLOCK 0 (0 without)");
        for (int clock = 1; clock < 4; clock++) {
            for (int c : new int[] {-100, -1, 0, 1, 100}) {
                for (int what = 5; what < 8; what++) {
                    int want = what - 4 == clock ? Math.abs(c) : 0;
                    due("count(" + what + ")", withTest(clock, c).count(what), want);
                    due("count(" + what + ")", withTest(4 * clock, c).count(what), want);
                }
            }
            for (int m = 0; m < 3; m++) {
                TimedYard x = withMachines(2, 2, 2);
                x.limit(m, 1, clock, 40, false);
                x.limit(m, 1, clock, 39, true);
                x.way(2 - m, 1, 1, 0, 0);
                x.test(2 - m, 0, clock, -39, false);
                x.walk();
                due("count of LIMITS", x.count(clock + 4), 40);
                x.test(2 - m, 0, clock * 4, -41, true);
                x.walk();
                due("count of TESTS", x.count(clock + 4), 41);
                due("count of another", x.count(clock % 3 + 5), 0);
            }
        }
        TimedYard x = withMachines(6);
        x.limit(0, 5, 1, 100, true);
        for (int w = 0; w < 12; w++) {
            x.way(0, 5, 5, 0, 0);
        }
        x.test(0, 11, 2, 0, false);
        x.test(0, 11, 2, 0, false);
        x.test(0, 11, 2, -99, false);
        x.walk();
        due("count(5) by the last PLACE", x.count(5), 100);
        due("count(6) by the last WAY", x.count(6), 99);
    }

    private static void nothingIsLetGo() {
        says("if any TEST is on two CLOCKS that are not 0, nothing is LET GO");
        for (int pair = 0; pair < 16; pair++) {
            if (pair / 4 == pair % 4) {
                continue;
            }
            boolean isOnTwo = pair / 4 != 0 && pair % 4 != 0;
            // A WAY that leads on from where nothing comes.
            TimedYard x = withMachines(3, 1);
            x.way(0, 2, 2, 7, 0);
            x.test(0, 0, pair, 0, true);
            x.way(0, 0, 1, 0, 0);
            int clock = pair % 4 == 0 ? pair / 4 : pair % 4;
            x.test(0, 1, clock % 3 + 1, -50, false);
            x.way(0, 1, 1, 0, 1 << clock % 3);
            due("walk()", x.walk(), 3);
            due("count(5)", x.count(5) == -2 ? 1 : 0, isOnTwo ? 1 : 0);
            due("count(6)", x.count(6) == -2 ? 1 : 0, isOnTwo ? 1 : 0);
            due("count(7)", x.count(7) == -2 ? 1 : 0, isOnTwo ? 1 : 0);
            // CLOCK 'clock' is at least 50, and let go by 0.
            due("bound(2, 0, " + clock + ")", x.bound(2, 0, clock), isOnTwo ? -99 : 0);
        }
    }

    private static void letGoInAWalk() {
        says("A MOVE: .. LET GO by GREATEST numbers");
        // CLOCK 2 is at least c when the MOVE is done, and its GREATEST number is 5.
        int[][] told = {{-5, 0, -9}, {-5, 1, -10}, {-6, 0, -10}, {-6, 1, -10}, {-100, 0, -10}, {-4, 0, -7}};
        for (int[] t : told) {
            TimedYard x = withMachines(3);
            x.way(0, 0, 1, 0, 1);
            x.test(0, 0, 1, t[0], t[1] == 1);
            x.way(0, 2, 2, 0, 0);
            x.test(0, 1, 2, 5, false);
            due("walk()", x.walk(), 2);
            due("count(6)", x.count(6), 5);
            due("bound(1, 0, 2) by " + t[0], x.bound(1, 0, 2), t[2]);
            due("soonest(1)", x.soonest(1), -2 * t[0] + t[1]);
        }
        says("THE FIRST: .. LET GO");
        TimedYard x = withMachines(2);
        x.limit(0, 0, 1, 9, false);
        due("walk()", x.walk(), 1);
        // CLOCK 2's at most 9 is let go and comes back by CLOCK 1, as it is CLOSED.
        dueBounds(x, 0, 1, 1, 1, 1, 19, 1, 1, 1, 19, 1, 1, 1, 19, 1, 1, 1);
    }

    /** From PLACE 0 to PLACE 1 with CLOCK 1 at least a, then with it at least b; nothing is let go. */
    private static TimedYard twice(int a, boolean aboveA, int b, boolean aboveB) {
        TimedYard x = withMachines(2);
        x.way(0, 0, 1, 0, 0);
        x.test(0, 0, 1, -a, aboveA);
        x.way(0, 0, 1, 0, 0);
        x.test(0, 1, 1, -b, aboveB);
        return x;
    }

    private static void lyingWithin() {
        says("a new STATE .. unless its ZONE lies WITHIN that of one with the same PLACES");
        TimedYard[] yards = {twice(5, false, 5, false), twice(5, false, 6, false),
            twice(5, false, 5, true), twice(5, true, 5, false), twice(6, false, 5, false)};
        int[] states = {2, 2, 2, 3, 3};
        for (int n = 0; n < yards.length; n++) {
            due("walk() of yard " + n, yards[n].walk(), states[n]);
            due("count(3)", yards[n].count(3), 2);
            due("count(4)", yards[n].count(4), 3 - states[n]);
            due("state(0, 4)", yards[n].state(0, 4), states[n] - 1);
            due("state(0, 5)", yards[n].state(0, 5), 2);
        }
        // Other PLACES, of MACHINE 1: the same ZONE is a new STATE.
        TimedYard x = withMachines(1, 2);
        x.way(0, 0, 0, 0, 0);
        x.way(1, 0, 1, 0, 0);
        due("walk()", x.walk(), 2);
        due("count(3)", x.count(3), 3);
        due("count(4)", x.count(4), 2);
    }

    private static void justTwoHundred() {
        says("200 at most: when a 201st would come the walk ends, SPENT");
        TimedYard x = twoLadders(98, 97);
        due("walk() to 199", x.walk(), 199);
        TimedYard y = twoLadders(98, 98);
        due("walk() to 200", y.walk(), 200);
        due("count(1)", y.count(1), 200);
        due("count(2)", y.count(2), 200);
        due("count(3)", y.count(3), 99 + 99 + 100);
        due("count(4)", y.count(4), 99);
        due("state(199, 5)", y.state(199, 5), 0);
        due("stuck(199)", y.stuck(199), 2);
        due("state(199, 0)", y.state(199, 0), 1);
        says("how many STATES there are; -2 less that: SPENT");
        TimedYard z = twoLadders(98, 99);
        due("walk() to 201", z.walk(), -202);
        due("count(1)", z.count(1), 200);
        due("count(2)", z.count(2), 199);
        due("state(199, 5)", z.state(199, 5), -2);
        due("stuck(199)", z.stuck(199), -1);
        due("walk() again", z.walk(), -202);
        says("SPENT; then one that is not");
        // Nothing climbs at PLACE 0 any more; the other ladder has its 101 STATES.
        z.limit(0, 0, 1, 0, false);
        due("walk()", z.walk(), 102);
        due("count(2)", z.count(2), 102);
        due("state(101, 0)", z.state(101, 0), 1);
        due("state(102, 0)", z.state(102, 0), -1);
    }

    private static void spentByTheLastMove() {
        says("-2 if it wasn't LOOKED AT (to the last of them)");
        TimedYard x = endless();
        due("walk()", x.walk(), -202);
        due("count(2)", x.count(2), 199);
        due("count(3)", x.count(3), 199);
        due("count(4)", x.count(4), 0);
        due("state(198, 4)", x.state(198, 4), 1);
        due("state(198, 5)", x.state(198, 5), 1);
        due("state(199, 4)", x.state(199, 4), 0);
        due("state(199, 5)", x.state(199, 5), -2);
        due("state(199, 6)", x.state(199, 6), 199);
        due("stuck(198)", x.stuck(198), 0);
        due("stuck(199)", x.stuck(199), -1);
    }

    /** Each STATE has three MOVES: one WITHIN, one that is new, one WITHIN. */
    private static void spentBeforeTheLastMove() {
        says("MOVES of STATES that were LOOKED AT (to the last of their MOVES)");
        TimedYard x = withMachines(1);
        x.way(0, 0, 0, 0, 0);
        x.way(0, 0, 0, 0, 1);
        x.test(0, 1, 1, -1, false);
        x.test(0, 1, 4, 1, false);
        x.test(0, 1, 6, 0, false);
        x.way(0, 0, 0, 0, 0);
        due("walk()", x.walk(), -202);
        due("count(2)", x.count(2), 199);
        due("count(3)", x.count(3), 3 * 199);
        due("count(4)", x.count(4), 2 * 199);
        due("state(198, 5)", x.state(198, 5), 3);
        due("state(199, 5)", x.state(199, 5), -2);
        // STATE 2 k - 1 is the k-th rung, 2 k is at PLACE 1; STATE 197's second MOVE is one too many.
        TimedYard y = endless();
        y.place(0);
        y.way(0, 0, 1, 0, 0);
        due("walk()", y.walk(), -202);
        due("count(2)", y.count(2), 197);
        due("count(3)", y.count(3), 198);
        due("seen(1, -1, -1)", y.seen(1, -1, -1), 2);
        due("state(0, 4)", y.state(0, 4), 2);
        due("state(196, 5)", y.state(196, 5), 0);
        due("stuck(196)", y.stuck(196), 2);
        due("state(197, 4)", y.state(197, 4), 1);
        due("state(197, 5)", y.state(197, 5), -2);
        due("stuck(197)", y.stuck(197), -1);
        due("state(198, 5)", y.state(198, 5), -2);
        due("stuck(198)", y.stuck(198), -1);
        due("state(199, 3)", y.state(199, 3), 197);
        due("state(199, 6)", y.state(199, 6), 100);
    }

    private static void countsToTheLast() {
        says("0 (5 to 7: 0) without a walk");
        TimedYard x = withMachines(1);
        x.limit(0, 0, 1, 9, false);
        x.way(0, 0, 0, 0, 0);
        for (int what = 1; what < 8; what++) {
            due("count(" + what + ")", x.count(what), 0);
        }
        due("count(0)", x.count(0), 1);
        x.walk();
        int[] told = {1, 1, 1, 1, 1, 9, 0, 0};
        for (int what = 0; what < 8; what++) {
            due("count(" + what + ")", x.count(what), told[what]);
        }
    }

    private static void placesOfStates() {
        says("0 .. 2 the PLACE of that MACHINE (-2: there is none)");
        for (int machines = 1; machines < 4; machines++) {
            TimedYard x = machines == 1 ? withMachines(1)
                : machines == 2 ? withMachines(1, 1) : withMachines(1, 1, 1);
            x.walk();
            for (int m = 0; m < 3; m++) {
                due("state(0, " + m + ")", x.state(0, m), m < machines ? 0 : -2);
            }
            due("seen(0, 0, 0)", x.seen(0, 0, 0), machines == 3 ? 0 : -2);
            due("seen(0, 0, -1)", x.seen(0, 0, -1), machines >= 2 ? 0 : -2);
            due("seen(0, -1, -1)", x.seen(0, -1, -1), 0);
        }
        says("3 the STATE from which it came (-2: of none)");
        TimedYard x = walked(ladder(1));
        due("state(0, 3)", x.state(0, 3), -2);
        due("state(1, 3)", x.state(1, 3), 0);
        due("state(2, 3)", x.state(2, 3), 1);
    }

    private static void soonestMoments() {
        says("2 t, if that can be just met, 2 t + 1 if one can only come near it (0 for THE FIRST)");
        int[][] told = {{0, 0, 0}, {0, 1, 1}, {1, 0, 2}, {1, 1, 3}, {100, 0, 200}, {100, 1, 201}};
        for (int[] t : told) {
            TimedYard x = withMachines(2);
            x.way(0, 0, 1, 0, 0);
            x.test(0, 0, 1, -t[0], t[1] == 1);
            due("walk()", x.walk(), 2);
            due("soonest(0)", x.soonest(0), 0);
            due("soonest(1) by " + t[0], x.soonest(1), t[2]);
        }
        says("The least time .. when the last of the MOVES .. is done, by all TESTS and LIMITS on the way");
        // CLOCK 2 is set by the first MOVE, not after 4; the second wants it to be at most 1, at 9.
        TimedYard x = withMachines(3);
        x.way(0, 0, 1, 0, 2);
        x.way(0, 1, 2, 0, 0);
        x.test(0, 1, 1, -9, false);
        x.limit(0, 1, 2, 1, false);
        due("walk()", x.walk(), 3);
        due("soonest(1) may be at once", x.soonest(1), 0);
        due("soonest(2)", x.soonest(2), 18);
        // A third MOVE, 7 after the first one: that was not before 8.
        x.place(0);
        x.way(0, 2, 3, 0, 0);
        x.test(0, 2, 2, -7, false);
        due("walk()", x.walk(), 4);
        due("soonest(3)", x.soonest(3), 30);
        x.limit(0, 1, 2, 1, true);
        due("walk()", x.walk(), 4);
        due("soonest(3) can only be come near", x.soonest(3), 31);
    }

    private static void soonestFarOff() {
        says("soonest: (nothing is LET GO)");
        // 199 MOVES, each 100 after the one before.
        TimedYard x = withMachines(1);
        x.way(0, 0, 0, 0, 1);
        x.test(0, 0, 1, -100, false);
        x.test(0, 0, 4, 100, false);
        x.test(0, 0, 6, 0, false);
        due("walk()", x.walk(), -202);
        due("soonest(199)", x.soonest(199), 39800);
        due("bound(199, 2, 1)", x.bound(199, 2, 1), 39801);
        // Here all is let go beyond 100, and the time goes on all the same.
        TimedYard y = withMachines(6, 6);
        for (int p = 0; p < 5; p++) {
            y.way(0, p, p + 1, p + 1, 1);
            y.test(0, p, 1, -100, true);
            y.way(1, p, p + 1, -p - 1, 1);
        }
        due("walk()", y.walk(), 6);
        for (int k = 1; k < 6; k++) {
            due("soonest(" + k + ")", y.soonest(k), 200 * k + 1);
        }
    }

    private static void stuckOrNot() {
        says("1 none of its MOVES could be, and a LIMIT of its PLACES ends time");
        TimedYard x = withMachines(1);
        x.limit(0, 0, 1, 0, false);
        x.walk();
        due("stuck(0) at time 0", x.stuck(0), 1);
        TimedYard y = withMachines(1, 1, 1);
        y.limit(2, 0, 3, 100, true);
        y.walk();
        due("stuck(0) by MACHINE 2", y.stuck(0), 1);
        TimedYard z = withMachines(2);
        z.way(0, 0, 1, 0, 0);
        z.limit(0, 0, 1, 5, false);
        z.test(0, 0, 1, -5, true);
        z.walk();
        due("stuck(0), the WAY comes too late", z.stuck(0), 1);
        says("2 none could be, time can pass without end");
        TimedYard u = withMachines(2, 1);
        u.way(0, 0, 1, 3, 0);
        u.limit(0, 1, 1, 5, false);
        u.walk();
        due("stuck(0), nothing takes the WORD", u.stuck(0), 2);
        says("0 else");
        // A MOVE that brings nothing new could be all the same.
        TimedYard v = withMachines(1);
        v.limit(0, 0, 1, 5, false);
        v.way(0, 0, 0, 0, 0);
        v.walk();
        due("stuck(0)", v.stuck(0), 0);
        due("count(4)", v.count(4), 1);
        says("-1: no such STATE, or it wasn't LOOKED AT");
        due("stuck(1)", v.stuck(1), -1);
    }

    private static void leads() {
        says("Of MOVE i, from 0, of those that lead to STATE k");
        TimedYard x = walked(endless());
        due("lead(0, 0, 0)", x.lead(0, 0, 0), -1);
        due("lead(1, 0, 0)", x.lead(1, 0, 0), 0);
        due("lead(1, 1, 0)", x.lead(1, 1, 0), -1);
        due("lead(199, 0, 2)", x.lead(199, 0, 2), -2);
        due("lead(199, 198, 3)", x.lead(199, 198, 3), -2);
        due("lead(199, 199, 3)", x.lead(199, 199, 3), -1);
        says("6 how many MOVES lead there from THE FIRST");
        due("state(0, 6)", x.state(0, 6), 0);
        due("state(1, 6)", x.state(1, 6), 1);
        due("state(199, 6)", x.state(199, 6), 199);
        // MACHINE 2 gives with its last WAY, MACHINE 1 takes with its last.
        TimedYard y = withMachines(1, 2, 2);
        for (int w = 0; w < 11; w++) {
            y.way(1, 1, 1, 0, 0);
            y.way(2, 1, 1, 0, 0);
        }
        y.way(1, 0, 1, -9, 0);
        y.way(2, 0, 1, 9, 0);
        due("walk()", y.walk(), 2);
        int[] told = {2, 11, 1, 11};
        for (int what = 0; what < 4; what++) {
            due("lead(1, 0, " + what + ")", y.lead(1, 0, what), told[what]);
        }
    }

    private static void latestWalk() {
        says("What is told of a walk is of the latest one, also when MACHINES have changed since");
        TimedYard x = withMachines(2);
        x.way(0, 0, 1, 0, 1);
        x.test(0, 0, 1, -3, false);
        x.walk();
        for (int round = 0; round < 2; round++) {
            due("count(1)", x.count(1), 2);
            due("count(3)", x.count(3), 1);
            due("count(5)", x.count(5), 3);
            due("count(6)", x.count(6), 0);
            due("soonest(1)", x.soonest(1), 6);
            due("stuck(1)", x.stuck(1), 2);
            due("state(1, 1)", x.state(1, 1), -2);
            due("state(1, 4)", x.state(1, 4), 0);
            due("seen(-1, 0, -1)", x.seen(-1, 0, -1), -2);
            due("bound(1, 0, 2)", x.bound(1, 0, 2), 0);
            due("lead(1, 0, 1)", x.lead(1, 0, 1), 0);
            due("keep(" + round + ", 3, 0, 0)", x.keep(round, 3, 0, 0), 0);
            due("element(" + round + ", 1)", x.element(round, 1), 1);
            due("hand(2, 1)", x.hand(2, 1), 0);
            due("handBound(0, 3)", x.handBound(0, 3), 0);
            // All that may come to MACHINES.
            x.test(0, 0, 9, 100, false);
            x.limit(0, 1, 2, 50, true);
            x.limit(0, 0, 1, 50, true);
            x.way(0, 1, 0, 0, 0);
            x.place(0);
            x.machine();
            x.place(x.count(0) - 1);
        }
        due("count(0)", x.count(0), 3);
        says("THE HAND's ZONE and the SHELVES keep what they got from a walk before");
        due("walk()", x.walk(), 3);
        due("handBound(0, 3)", x.handBound(0, 3), 0);
        due("element(0, 1)", x.element(0, 1), 1);
        due("element(0, 2)", x, y -> y.element(0, 2), STATE);
    }

    private static void asItIsThen() {
        says("a WAY or a PLACE (as it is then)");
        TimedYard x = withMachines(1);
        x.way(0, 0, 0, 0, 0);
        for (int n = 0; n < 4; n++) {
            x.keep(n, 1, 0, 0);
            x.test(0, 0, 1, 0, false);
        }
        for (int n = 0; n < 3; n++) {
            x.keep(n + 4, 2, 0, 0);
            x.limit(0, 0, 1, 5, false);
        }
        int[] told = {10, 11, 12, 13, 3, 4, 5};
        for (int d = 0; d < 7; d++) {
            due("weight(" + d + ")", x.weight(d), told[d]);
        }
        says("SHELF d gets: nothing");
        due("keep(0, 0, 0, 0)", x.keep(0, 0, 0, 0), 0);
        due("weight(0)", x.weight(0), -11);
        due("weight(1)", x.weight(1), 11);
        due("keep(7, 0, 0, 0) of nothing", x.keep(7, 0, 0, 0), 0);
        due("weight(7)", x.weight(7), -11);
        says("SHELF d gets another thing in its place");
        due("make(1, 3, 0)", x.make(1, 3, 0), 0);
        due("weight(1)", x.weight(1), -12);
        due("keep(1, 2, 0, 0)", x.keep(1, 2, 0, 0), 0);
        due("weight(1)", x.weight(1), 5);
    }

    private static void weights() {
        says("of one with a WORD 100 more, of one that takes twice that");
        int[][] told = {{0, 10}, {1, 110}, {9, 110}, {-1, 220}, {-9, 220}};
        for (int[] t : told) {
            TimedYard x = withMachines(1);
            x.way(0, 0, 0, t[0], 7);
            for (int tests = 0; tests < 4; tests++) {
                x.keep(0, 1, 0, 0);
                due("weight of WORD " + t[0], x.weight(0), t[1] + (t[0] < 0 ? 2 * tests : tests));
                due("test", x.test(0, 0, 1, 0, false), tests < 3 ? tests + 1 : -2);
            }
        }
    }

    private static void failures() {
        says("its WORD without a sign; -15: one without a WORD has none");
        for (int word = -9; word < 10; word++) {
            TimedYard x = withMachines(1);
            x.way(0, 0, 0, word, 0);
            x.keep(7, 1, 0, 0);
            due("toss of WORD " + word, x.toss(7), word == 0 ? -15 : Math.abs(word));
        }
    }
}
