/** For each promise of the document: ordinary calls, the edges that it names, and wrong inputs. */
public final class PromisesTest extends YardCheck {
    public static void main(String[] args) {
        aNewObject();
        machine();
        place();
        limit();
        way();
        test();
        walkAnswers();
        walkOrder();
        walkSpent();
        walkWithWords();
        walkSpentByWords();
        walkLimitsOfAll();
        walkAgain();
        state();
        bound();
        seen();
        lead();
        soonest();
        soonestIsNotLetGo();
        stuck();
        hand();
        tighten();
        pass();
        set();
        letGo();
        meet();
        within();
        handBound();
        count();
        countsOfASpentWalk();
        keep();
        make();
        element();
        copy();
        weight();
        toss();
        latestWalk();
        refusedCallsChangeNothing();
        end("all promises hold");
    }

    private static void aNewObject() {
        says("promise 1");
        TimedYard x = new TimedYard();
        due("ANY", TimedYard.ANY, 1000000);
        due("count(0)", x.count(0), 0);
        for (int what = 1; what < 8; what++) {
            due("count(" + what + ")", x.count(what), 0);
        }
        dueHand(x, "new:", 1, 1, 1, 1, A, 1, A, A, A, A, 1, A, A, A, A, 1);
        due("state(0, 0)", x.state(0, 0), -1);
        due("seen(-1, -1, -1)", x.seen(-1, -1, -1), -2);
        due("keep(0, 3, 0, 0)", x.keep(0, 3, 0, 0), -1);
        for (int d = 0; d < 8; d++) {
            due("weight(" + d + ")", x.weight(d), -11);
        }
    }

    private static void machine() {
        says("promise 2");
        TimedYard x = new TimedYard();
        for (int m = 0; m < 3; m++) {
            due("machine()", x.machine(), m);
            due("count(0)", x.count(0), m + 1);
        }
        due("machine()", x.machine(), -2);
        due("count(0)", x.count(0), 3);
    }

    private static void place() {
        says("promise 3");
        TimedYard x = new TimedYard();
        due("place(0)", x.place(0), -1);
        x.machine();
        x.machine();
        for (int p = 0; p < 6; p++) {
            due("place(1)", x.place(1), p);
        }
        due("place(1)", x.place(1), -2);
        due("place(0)", x.place(0), 0);
        for (int m : new int[] {-1, 2, 3, LEAST, MOST}) {
            due("place(" + m + ")", x.place(m), -1);
        }
    }

    private static void limit() {
        says("promise 4");
        TimedYard x = withMachines(2);
        int[][] bad = {{1, 0, 1, 5}, {-1, 0, 1, 5}, {0, 2, 1, 5}, {0, -1, 1, 5}, {0, 0, 0, 5},
            {0, 0, 4, 5}, {0, 0, 1, -1}, {0, 0, 1, 101}, {MOST, MOST, MOST, MOST},
            {LEAST, LEAST, LEAST, LEAST}};
        for (int[] b : bad) {
            due("limit of a wrong input", x.limit(b[0], b[1], b[2], b[3], false), -1);
        }
        due("limit(0, 0, 1, 0)", x.limit(0, 0, 1, 0, false), 1);
        due("limit(0, 0, 3, 100)", x.limit(0, 0, 3, 100, true), 2);
        due("limit(0, 0, 2, 7)", x.limit(0, 0, 2, 7, false), -2);
        due("limit(0, 0, 4, 7)", x.limit(0, 0, 4, 7, false), -1);
        due("limit(0, 1, 2, 7)", x.limit(0, 1, 2, 7, false), 1);
        x.walk();
        due("bound(0, 1, 0)", x.bound(0, 1, 0), 1);

        TimedYard y = withMachines(1);
        y.limit(0, 0, 2, 7, true);
        y.walk();
        due("bound(0, 2, 0)", y.bound(0, 2, 0), 14);
    }

    private static void way() {
        says("promise 5");
        TimedYard x = withMachines(2, 1);
        int[][] bad = {{2, 0, 0, 0, 0}, {-1, 0, 0, 0, 0}, {0, 2, 0, 0, 0}, {0, -1, 0, 0, 0},
            {0, 0, 2, 0, 0}, {0, 0, -1, 0, 0}, {0, 0, 0, 10, 0}, {0, 0, 0, -10, 0}, {0, 0, 0, 0, 8},
            {0, 0, 0, 0, -1}, {1, 1, 0, 0, 0}, {LEAST, MOST, LEAST, MOST, LEAST}};
        for (int[] b : bad) {
            due("way of a wrong input", x.way(b[0], b[1], b[2], b[3], b[4]), -1);
        }
        due("way(0, 0, 1, 9, 7)", x.way(0, 0, 1, 9, 7), 0);
        due("way(0, 1, 0, -9, 0)", x.way(0, 1, 0, -9, 0), 1);
        for (int w = 2; w < 12; w++) {
            due("way(0, 1, 1, 0, 0)", x.way(0, 1, 1, 0, 0), w);
        }
        due("way(0, 1, 1, 0, 0)", x.way(0, 1, 1, 0, 0), -2);
        due("way(0, 1, 2, 0, 0)", x.way(0, 1, 2, 0, 0), -1);
        due("way(1, 0, 0, 0, 0)", x.way(1, 0, 0, 0, 0), 0);

        for (int sets = 0; sets < 8; sets++) {
            TimedYard y = withMachines(2);
            y.way(0, 0, 1, 0, sets);
            y.limit(0, 1, 1, 100, false);
            y.limit(0, 1, 2, 100, false);
            y.test(0, 0, 1, -4, false);
            y.test(0, 0, 3, -100, false);
            y.walk();
            y.hand(2, 1);
            for (int clock = 1; clock < 4; clock++) {
                boolean isSet = (sets >> clock - 1 & 1) == 1;
                due("bound(1, 0, " + clock + ") when " + sets + " are set",
                    y.bound(1, 0, clock) >= 0 ? 1 : 0, isSet ? 1 : 0);
            }
        }
    }

    private static void test() {
        says("promise 6");
        TimedYard x = withMachines(1);
        x.way(0, 0, 0, 0, 0);
        int[][] bad = {{1, 0, 1, 0}, {-1, 0, 1, 0}, {0, 1, 1, 0}, {0, -1, 1, 0}, {0, 0, 0, 0},
            {0, 0, 5, 0}, {0, 0, 10, 0}, {0, 0, 15, 0}, {0, 0, 16, 0}, {0, 0, -1, 0}, {0, 0, -4, 0},
            {0, 0, 1, 101}, {0, 0, 1, -101}, {LEAST, LEAST, LEAST, LEAST}, {0, 0, MOST, 0}};
        for (int[] b : bad) {
            due("test of a wrong input", x.test(b[0], b[1], b[2], b[3], false), -1);
        }
        due("test(0, 0, 1, -100)", x.test(0, 0, 1, -100, false), 1);
        due("test(0, 0, 14, 100)", x.test(0, 0, 14, 100, true), 2);
        due("test(0, 0, 4, 1)", x.test(0, 0, 4, 1, true), 3);
        due("test(0, 0, 4, 1)", x.test(0, 0, 4, 1, true), -2);
        due("test(0, 0, 5, 1)", x.test(0, 0, 5, 1, true), -1);

        // A test on i, j bounds i less j, not j less i.
        TimedYard y = withMachines(2);
        y.way(0, 0, 1, 0, 0);
        y.test(0, 0, 4, 3, true);
        y.way(0, 0, 1, 0, 0);
        y.test(0, 1, 1, -3, false);
        y.way(0, 0, 1, 0, 0);
        y.test(0, 2, 4, -1, false);
        due("walk()", y.walk(), 2);
        due("count(3)", y.count(3), 2);
        due("count(4)", y.count(4), 1);
        due("soonest(1)", y.soonest(1), 0);
    }

    private static void walkAnswers() {
        says("promise 7");
        TimedYard x = new TimedYard();
        due("walk() without machines", x.walk(), -1);
        x.machine();
        due("walk() without places", x.walk(), -1);
        x.place(0);
        due("walk()", x.walk(), 1);
        dueBounds(x, 0, 1, 1, 1, 1, A, 1, 1, 1, A, 1, 1, 1, A, 1, 1, 1);
        x.machine();
        due("walk() with one without places", x.walk(), -1);
        due("count(1) after a refused walk", x.count(1), 1);
        x.place(1);
        due("walk()", x.walk(), 1);
        x.limit(1, 0, 1, 0, false);
        due("walk() with no time", x.walk(), 1);
        x.limit(0, 0, 1, 0, true);
        due("walk() with THE FIRST empty", x.walk(), 0);
        due("count(1)", x.count(1), 0);
        due("count(5)", x.count(5), 0);
        due("keep(0, 3, 0, 0)", x.keep(0, 3, 0, 0), 0);
        due("element(0, 0)", x, t -> t.element(0, 0), STATE);
    }

    private static void walkOrder() {
        says("promise 7");
        TimedYard x = withMachines(3, 3, 3);
        x.way(2, 0, 1, 0, 0);
        x.way(1, 0, 2, 0, 0);
        x.way(1, 0, 1, 0, 0);
        x.way(0, 0, 1, 3, 0);
        x.way(0, 0, 2, 0, 0);
        x.way(2, 0, 2, -3, 0);
        x.way(1, 0, 0, -3, 0);
        x.way(2, 0, 0, -3, 0);
        due("walk()", x.walk(), x.count(1));
        int[][] places = {{0, 0, 0}, {1, 0, 0}, {1, 0, 2}, {2, 0, 0}, {0, 2, 0}, {0, 1, 0}, {0, 0, 1}};
        int[][] moves = {{}, {0, 0, 1, 2}, {0, 0, 2, 1}, {0, 1, -2, -2}, {1, 0, -2, -2},
            {1, 1, -2, -2}, {2, 0, -2, -2}};
        for (int k = 0; k < places.length; k++) {
            for (int m = 0; m < 3; m++) {
                due("state(" + k + ", " + m + ")", x.state(k, m), places[k][m]);
            }
            for (int what = 0; what < moves[k].length; what++) {
                due("lead(" + k + ", 0, " + what + ")", x.lead(k, 0, what), moves[k][what]);
            }
        }
        // The move with the third way of machine 2 leads where that with machine 1's has led.
        due("state(0, 4)", x.state(0, 4), 6);
        due("state(0, 5)", x.state(0, 5), 7);
    }

    private static void walkSpent() {
        says("promise 7");
        TimedYard x = withMachines(1);
        x.way(0, 0, 0, 0, 1);
        x.test(0, 0, 1, -1, false);
        x.test(0, 0, 4, 1, false);
        x.test(0, 0, 9, 100, false);
        due("walk()", x.walk(), 102);
        due("count(2)", x.count(2), 102);

        TimedYard y = withMachines(1);
        y.way(0, 0, 0, 0, 1);
        y.test(0, 0, 1, -1, false);
        y.test(0, 0, 4, 1, false);
        y.way(0, 0, 0, 0, 0);
        y.test(0, 1, 6, -100, true);
        due("walk()", y.walk(), -202);
        due("count(1)", y.count(1), 200);
        due("count(2)", y.count(2), 199);
        due("state(199, 5)", y.state(199, 5), -2);
        due("soonest(199)", y.soonest(199), 398);

        due("walk() that comes to just 200", twoLadders(98, 98).walk(), 200);
        due("walk() that would come to 201", twoLadders(98, 99).walk(), -202);
    }

    private static void walkWithWords() {
        says("promise 7");
        // A word is not taken by the machine that gives it, nor without a giver.
        TimedYard x = withMachines(2);
        x.way(0, 0, 1, 4, 0);
        x.way(0, 0, 1, -4, 0);
        due("walk()", x.walk(), 1);
        // Both tests are made before either sets.
        TimedYard y = withMachines(2, 2);
        y.way(0, 0, 1, 4, 1);
        y.way(1, 0, 1, -4, 2);
        y.test(1, 0, 1, -3, false);
        due("walk()", y.walk(), 2);
        due("soonest(1)", y.soonest(1), 6);
        y.hand(2, 1);
        due("handBound(1, 2)", y.handBound(1, 2), 1);
        due("handBound(2, 1)", y.handBound(2, 1), 1);
        due("handBound(1, 3) is let go", y.handBound(1, 3), 0);
        y.test(0, 0, 4, 3, true);
        due("walk() when the tests do not meet", y.walk(), 1);
        // Only from where both stand.
        TimedYard z = withMachines(2, 2);
        z.way(0, 0, 1, 1, 0);
        z.way(1, 1, 0, -1, 0);
        due("walk()", z.walk(), 1);
        z.way(1, 0, 1, 0, 0);
        due("walk()", z.walk(), 4);
        due("lead(2, 1, 0)", z.lead(2, 1, 0), 0);
        due("lead(2, 1, 3)", z.lead(2, 1, 3), 0);
        // Another word is not taken.
        TimedYard u = withMachines(2, 2);
        u.way(0, 0, 1, 1, 0);
        u.way(1, 0, 1, -2, 0);
        due("walk()", u.walk(), 1);
    }

    private static void walkSpentByWords() {
        says("promise 7");
        TimedYard x = withMachines(1, 1);
        x.way(0, 0, 0, 8, 1);
        x.test(0, 0, 1, -1, false);
        x.test(0, 0, 4, 1, false);
        x.test(0, 0, 6, 0, false);
        x.way(1, 0, 0, -8, 0);
        due("walk()", x.walk(), -202);
        due("count(2)", x.count(2), 199);
        due("state(199, 5)", x.state(199, 5), -2);
        due("stuck(199)", x.stuck(199), -1);
        due("lead(199, 198, 2)", x.lead(199, 198, 2), 1);
    }

    /** The same machines are gone through in the same way, whatever was walked before. */
    private static void walkAgain() {
        says("promise 7");
        TimedYard x = withMachines(3);
        x.way(0, 0, 1, 0, 1);
        x.test(0, 0, 1, -2, false);
        x.way(0, 0, 0, 0, 0);
        x.way(0, 1, 2, 0, 0);
        for (int turn = 0; turn < 3; turn++) {
            due("walk()", x.walk(), 3);
            due("count(2)", x.count(2), 3);
            due("count(3)", x.count(3), 3);
            due("count(4)", x.count(4), 1);
            due("state(0, 4)", x.state(0, 4), 1);
            due("state(0, 5)", x.state(0, 5), 2);
            due("soonest(0)", x.soonest(0), 0);
            due("soonest(2)", x.soonest(2), 4);
            dueBounds(x, 0, 1, 1, 1, 1, A, 1, 1, 1, A, 1, 1, 1, A, 1, 1, 1);
        }
        // A state that was not THE FIRST may come to be it, and the other way round.
        x.limit(0, 0, 1, 1, false);
        due("walk()", x.walk(), 1);
        due("state(1, 0)", x.state(1, 0), -1);
        due("count(2)", x.count(2), 1);
        due("seen(2, -1, -1)", x.seen(2, -1, -1), -2);
        x.limit(0, 0, 2, 0, true);
        due("walk()", x.walk(), 0);
        due("count(2)", x.count(2), 0);
        due("count(3)", x.count(3), 0);
        due("count(4)", x.count(4), 0);
        due("state(0, 0)", x.state(0, 0), -1);
    }

    private static void walkLimitsOfAll() {
        says("promise 7");
        // A machine that stays still holds time back, as does the place that a way leads to.
        TimedYard x = withMachines(2, 1);
        x.limit(1, 0, 2, 5, false);
        x.limit(0, 1, 1, 4, true);
        x.way(0, 0, 1, 0, 0);
        due("walk()", x.walk(), 2);
        dueBounds(x, 0, 1, 1, 1, 1, 11, 1, 1, 1, 11, 1, 1, 1, 11, 1, 1, 1);
        dueBounds(x, 1, 1, 1, 1, 1, 8, 1, 1, 1, 8, 1, 1, 1, 8, 1, 1, 1);
        x.test(0, 0, 3, -4, false);
        due("walk()", x.walk(), 1);
    }

    private static void state() {
        says("promise 8");
        TimedYard x = withMachines(3, 1);
        x.way(0, 0, 1, 0, 0);
        x.way(0, 1, 2, 0, 0);
        x.way(0, 1, 0, 0, 0);
        due("state(0, 0) before a walk", x.state(0, 0), -1);
        due("walk()", x.walk(), 3);
        int[][] told = {{0, 0, -2, -2, 1, 1, 0}, {1, 0, -2, 0, 1, 2, 1}, {2, 0, -2, 1, 0, 0, 2}};
        for (int k = 0; k < 3; k++) {
            for (int what = 0; what < 7; what++) {
                due("state(" + k + ", " + what + ")", x.state(k, what), told[k][what]);
            }
        }
        int[][] bad = {{3, 0}, {-1, 0}, {0, 7}, {0, -1}, {LEAST, 0}, {MOST, 0}, {0, LEAST}, {0, MOST}};
        for (int[] b : bad) {
            due("state(" + b[0] + ", " + b[1] + ")", x.state(b[0], b[1]), -1);
        }
    }

    private static void bound() {
        says("promise 9");
        TimedYard x = withMachines(2);
        x.limit(0, 0, 1, 5, false);
        x.way(0, 0, 1, 0, 1);
        x.test(0, 0, 1, -3, false);
        x.test(0, 0, 2, -3, false);
        x.walk();
        dueBounds(x, 0, 1, 1, 1, 1, 11, 1, 1, 1, 11, 1, 1, 1, 11, 1, 1, 1);
        // Greatest numbers 5, 3, 0: clock 3 would be let go, but it shows what clock 2 shows.
        dueBounds(x, 1, 1, 1, -5, -5, A, 1, -5, -5, A, A, 1, 1, A, A, 1, 1);
        int[][] bad = {{2, 0, 0}, {-1, 0, 0}, {0, 4, 0}, {0, 0, 4}, {0, -1, 0}, {0, 0, -1},
            {LEAST, LEAST, LEAST}, {MOST, MOST, MOST}};
        for (int[] b : bad) {
            due("bound of a wrong input", x, t -> t.bound(b[0], b[1], b[2]), ARGUMENT);
        }
    }

    private static void seen() {
        says("promise 10");
        TimedYard x = withMachines(3, 2);
        x.way(0, 0, 1, 0, 0);
        x.way(1, 0, 1, 0, 0);
        due("walk()", x.walk(), 4);
        int[][] told = {{-1, -1, -1, 0}, {1, -1, -1, 1}, {-1, 1, -1, 2}, {1, 1, -1, 3}, {0, 0, -1, 0},
            {2, -1, -1, -2}, {5, -1, -1, -2}, {-1, -1, 0, -2}, {-2, 0, 0, -1}, {0, 6, 0, -1},
            {0, 0, -2, -1}, {6, 0, 0, -1}, {0, -2, 0, -1}, {0, 0, 6, -1}, {MOST, 0, 0, -1},
            {0, LEAST, 0, -1}};
        for (int[] t : told) {
            due("seen(" + t[0] + ", " + t[1] + ", " + t[2] + ")", x.seen(t[0], t[1], t[2]), t[3]);
        }
    }

    private static void lead() {
        says("promise 11");
        TimedYard x = withMachines(3, 2);
        x.way(0, 0, 1, 0, 0);
        x.way(0, 1, 2, 7, 0);
        x.way(1, 0, 0, 0, 0);
        x.way(1, 0, 1, -7, 0);
        due("lead(0, 0, 0) before a walk", x.lead(0, 0, 0), -1);
        due("walk()", x.walk(), 3);
        int[][] moves = {{0, 0, -2, -2}, {0, 1, 1, 1}};
        for (int i = 0; i < 2; i++) {
            for (int what = 0; what < 4; what++) {
                due("lead(2, " + i + ", " + what + ")", x.lead(2, i, what), moves[i][what]);
            }
        }
        int[][] bad = {{2, 2, 0}, {2, -1, 0}, {2, 0, 4}, {2, 0, -1}, {3, 0, 0}, {-1, 0, 0}, {0, 0, 0},
            {1, 1, 0}, {MOST, MOST, MOST}, {LEAST, LEAST, LEAST}};
        for (int[] b : bad) {
            due("lead(" + b[0] + ", " + b[1] + ", " + b[2] + ")", x.lead(b[0], b[1], b[2]), -1);
        }
    }

    private static void soonest() {
        says("promise 12");
        TimedYard x = withMachines(4);
        x.way(0, 0, 1, 0, 1);
        x.test(0, 0, 1, -3, true);
        x.way(0, 1, 2, 0, 0);
        x.test(0, 1, 1, -2, false);
        x.way(0, 2, 3, 0, 0);
        x.test(0, 2, 2, -50, false);
        due("soonest(0) before a walk", x.soonest(0), -1);
        due("walk()", x.walk(), 4);
        due("soonest(0)", x.soonest(0), 0);
        due("soonest(1)", x.soonest(1), 7);
        due("soonest(2)", x.soonest(2), 11);
        due("soonest(3)", x.soonest(3), 100);
        for (int k : new int[] {4, -1, LEAST, MOST}) {
            due("soonest(" + k + ")", x.soonest(k), -1);
        }
    }

    private static void soonestIsNotLetGo() {
        says("promise 12");
        // Each turn takes 10 at least, though greatest numbers forget how long clock 2 has run.
        TimedYard x = withMachines(6);
        for (int p = 0; p < 5; p++) {
            x.way(0, p, p + 1, 0, 1);
            x.test(0, p, 1, -10, false);
        }
        due("walk()", x.walk(), 6);
        for (int k = 0; k < 6; k++) {
            due("soonest(" + k + ")", x.soonest(k), 20 * k);
        }
        // A limit of the new place binds at the moment of the move: it can only come at 4.
        TimedYard y = withMachines(3);
        y.way(0, 0, 1, 0, 1);
        y.test(0, 0, 1, -4, false);
        y.limit(0, 1, 2, 4, false);
        y.way(0, 1, 2, 0, 0);
        y.test(0, 1, 2, -4, false);
        due("walk()", y.walk(), 3);
        due("soonest(2)", y.soonest(2), 8);
    }

    private static void stuck() {
        says("promise 13");
        TimedYard x = withMachines(4);
        x.way(0, 0, 1, 0, 0);
        x.way(0, 0, 2, 0, 0);
        x.way(0, 0, 3, 0, 0);
        x.limit(0, 1, 1, 6, false);
        x.way(0, 3, 3, 0, 0);
        x.way(0, 2, 0, 0, 0);
        x.test(0, 4, 4, 0, true);
        due("stuck(0) before a walk", x.stuck(0), -1);
        due("walk()", x.walk(), 4);
        due("stuck(0)", x.stuck(0), 0);
        due("stuck(1)", x.stuck(1), 1);
        due("stuck(2)", x.stuck(2), 2);
        due("stuck(3)", x.stuck(3), 0);
        for (int k : new int[] {4, -1, LEAST, MOST}) {
            due("stuck(" + k + ")", x.stuck(k), -1);
        }
        // The limit of a machine that is not the one that came ends time, too.
        TimedYard y = withMachines(1, 1);
        y.limit(1, 0, 3, 100, true);
        y.walk();
        due("stuck(0)", y.stuck(0), 1);
        TimedYard z = endless();
        due("walk()", z.walk(), -202);
        due("stuck of the last one", z.stuck(199), -1);
    }

    private static void hand() {
        says("promise 14");
        TimedYard x = withMachines(1);
        due("hand(2, 0) before a walk", x.hand(2, 0), -1);
        x.limit(0, 0, 1, 5, false);
        x.walk();
        due("hand(1, -7)", x.hand(1, -7), 0);
        dueHand(x, "all 0:", 1, 1, 1, 1, 1, 1, 1, 1, 1, 1, 1, 1, 1, 1, 1, 1);
        due("hand(2, 0)", x.hand(2, 0), 0);
        dueHand(x, "state 0:", 1, 1, 1, 1, 11, 1, 1, 1, 11, 1, 1, 1, 11, 1, 1, 1);
        due("hand(3, 9)", x.hand(3, 9), 0);
        due("handBound(1, 1)", x.handBound(1, 1), -2000000);
        due("pass()", x.pass(), 1);
        due("hand(1, 9)", x.hand(1, 9), 0);
        dueHand(x, "all 0:", 1, 1, 1, 1, 1, 1, 1, 1, 1, 1, 1, 1, 1, 1, 1, 1);
        x.hand(3, 0);
        due("hand(0, 9)", x.hand(0, 9), 0);
        dueHand(x, "all times:", 1, 1, 1, 1, A, 1, A, A, A, A, 1, A, A, A, A, 1);
        int[][] bad = {{2, 1}, {2, -1}, {2, LEAST}, {2, MOST}, {4, 0}, {-1, 0}, {LEAST, 0}, {MOST, 0}};
        for (int[] b : bad) {
            due("hand(" + b[0] + ", " + b[1] + ")", x.hand(b[0], b[1]), -1);
        }
        // The hand has a zone of its own.
        x.hand(2, 0);
        x.tighten(1, 0, 2, false);
        due("bound(0, 1, 0)", x.bound(0, 1, 0), 11);
    }

    private static void tighten() {
        says("promise 15");
        TimedYard x = new TimedYard();
        due("tighten(1, 0, 8, false)", x.tighten(1, 0, 8, false), 0);
        due("tighten(2, 1, -3, true)", x.tighten(2, 1, -3, true), 0);
        dueHand(x, "then", 1, -6, 1, 1, 17, 1, 17, 17, 10, -6, 1, 10, A, A, A, 1);
        due("tighten(1, 0, 9, true) is looser", x.tighten(1, 0, 9, true), 0);
        due("handBound(1, 0)", x.handBound(1, 0), 17);
        due("tighten(1, 0, 8, true)", x.tighten(1, 0, 8, true), 0);
        due("handBound(1, 0)", x.handBound(1, 0), 16);
        due("tighten(1, 0, 3, false)", x.tighten(1, 0, 3, false), 1);
        due("tighten(1, 0, 400, false)", x.tighten(1, 0, 400, false), 1);
        int[][] bad = {{4, 0, 0}, {-1, 0, 0}, {0, 4, 0}, {0, -1, 0}, {2, 2, 0}, {0, 0, 0}, {1, 0, 401},
            {1, 0, -401}, {MOST, MOST, MOST}, {LEAST, LEAST, LEAST}};
        for (int[] b : bad) {
            due("tighten of a wrong input", x.tighten(b[0], b[1], b[2], false), -1);
        }
        // At most 400 and at least 400 meet; below and at least don't.
        TimedYard y = new TimedYard();
        due("tighten(1, 0, 400, false)", y.tighten(1, 0, 400, false), 0);
        due("tighten(0, 1, -400, false)", y.tighten(0, 1, -400, false), 0);
        due("handBound(1, 0)", y.handBound(1, 0), 801);
        due("handBound(0, 1)", y.handBound(0, 1), -799);
        due("tighten(1, 0, 400, true)", y.tighten(1, 0, 400, true), 1);
        TimedYard z = new TimedYard();
        due("tighten(1, 0, 0, true)", z.tighten(1, 0, 0, true), 1);
        due("within nothing", z.within(0), -1);
    }

    private static void pass() {
        says("promise 16");
        TimedYard x = new TimedYard();
        x.hand(1, 0);
        x.tighten(0, 1, 0, false);
        due("pass()", x.pass(), 0);
        dueHand(x, "passed:", 1, 1, 1, 1, A, 1, 1, 1, A, 1, 1, 1, A, 1, 1, 1);
        x.tighten(0, 2, -4, false);
        x.tighten(3, 0, 4, false);
        due("pass()", x.pass(), 0);
        dueHand(x, "passed:", 1, -7, -7, -7, A, 1, 1, 1, A, 1, 1, 1, A, 1, 1, 1);
        x.hand(3, 0);
        due("pass()", x.pass(), 1);
    }

    private static void set() {
        says("promise 17");
        TimedYard x = new TimedYard();
        x.tighten(1, 0, 9, false);
        x.tighten(0, 1, -2, true);
        x.tighten(3, 0, 6, true);
        due("set(0)", x.set(0), 0);
        dueHand(x, "set(0):", 1, -4, 1, 1, 19, 1, 19, 19, A, A, 1, A, 12, 8, 12, 1);
        due("set(2)", x.set(2), 0);
        dueHand(x, "set(2):", 1, -4, 1, 1, 19, 1, 19, 19, 1, -4, 1, 1, 12, 8, 12, 1);
        due("set(5)", x.set(5), 0);
        dueHand(x, "set(5):", 1, 1, 1, 1, 1, 1, 1, 1, 1, 1, 1, 1, 1, 1, 1, 1);
        for (int sets : new int[] {-1, 8, LEAST, MOST}) {
            due("set(" + sets + ")", x.set(sets), -1);
        }
        x.hand(3, 0);
        due("set(7)", x.set(7), 1);
        due("handBound(0, 0)", x.handBound(0, 0), -2000000);
        due("set(8)", x.set(8), -1);
    }

    private static void letGo() {
        says("promise 18");
        TimedYard x = new TimedYard();
        x.tighten(1, 0, 7, false);
        x.tighten(0, 2, -9, false);
        due("letGo(7, 9, 0)", x.letGo(7, 9, 0), 0);
        dueHand(x, "kept:", 1, 1, -17, 1, 15, 1, -3, 15, A, A, 1, A, A, A, A, 1);
        due("letGo(7, 8, 0)", x.letGo(7, 8, 0), 0);
        // Clock 1 less clock 2 was at most -2, no lower than -8: it stays.
        dueHand(x, "let go:", 1, 1, -16, 1, 15, 1, -3, 15, A, A, 1, A, A, A, A, 1);
        due("letGo(6, 1, 200)", x.letGo(6, 1, 200), 0);
        dueHand(x, "let go:", 1, 1, -2, 1, A, 1, -2, A, A, A, 1, A, A, A, A, 1);
        due("letGo(0, 0, 0)", x.letGo(0, 0, 0), 0);
        dueHand(x, "let go:", 1, 1, 0, 1, A, 1, 0, A, A, A, 1, A, A, A, A, 1);
        // Each number is that of its own clock.
        x.hand(0, 0);
        for (int clock = 1; clock < 4; clock++) {
            x.tighten(0, clock, -90, false);
            x.tighten(clock, 0, 50 + 50 * clock, false);
        }
        due("letGo(100, 149, 80)", x.letGo(100, 149, 80), 0);
        due("handBound(1, 0)", x.handBound(1, 0), 201);
        // Clock 2 less clock 1 is still at most 60.
        due("handBound(2, 0)", x.handBound(2, 0), 321);
        due("handBound(3, 0)", x.handBound(3, 0), A);
        due("handBound(0, 1)", x.handBound(0, 1), -179);
        due("handBound(0, 2)", x.handBound(0, 2), -179);
        due("handBound(0, 3)", x.handBound(0, 3), -160);
        // What is let go comes back where other bounds give it.
        TimedYard y = new TimedYard();
        y.hand(1, 0);
        y.pass();
        y.tighten(2, 0, 9, false);
        due("letGo(0, 9, 0)", y.letGo(0, 9, 0), 0);
        due("handBound(1, 0)", y.handBound(1, 0), 19);
        int[][] bad = {{-1, 0, 0}, {201, 0, 0}, {0, -1, 0}, {0, 201, 0}, {0, 0, -1}, {0, 0, 201},
            {LEAST, MOST, 0}};
        for (int[] b : bad) {
            due("letGo of a wrong input", y.letGo(b[0], b[1], b[2]), -1);
        }
        due("letGo(200, 200, 200)", y.letGo(200, 200, 200), 0);
        y.hand(3, 0);
        due("letGo(1, 1, 1)", y.letGo(1, 1, 1), 1);
        due("letGo(1, 1, 201)", y.letGo(1, 1, 201), -1);
    }

    private static void meet() {
        says("promise 19");
        TimedYard x = withMachines(2);
        x.limit(0, 0, 1, 5, false);
        x.way(0, 0, 1, 0, 0);
        x.test(0, 0, 1, -3, false);
        due("meet(0) before a walk", x.meet(0), -1);
        x.walk();
        x.hand(0, 0);
        x.tighten(0, 2, -2, true);
        due("meet(0)", x.meet(0), 0);
        dueHand(x, "met:", 1, -4, -4, -4, 11, 1, 1, 1, 11, 1, 1, 1, 11, 1, 1, 1);
        due("meet(0)", x.meet(0), 0);
        due("within(0)", x.within(0), 1);
        x.hand(0, 0);
        x.tighten(1, 0, 3, true);
        due("meet(1)", x.meet(1), 1);
        due("meet(0)", x.meet(0), 1);
        due("handBound(2, 1)", x.handBound(2, 1), -2000000);
        for (int k : new int[] {2, -1, LEAST, MOST}) {
            due("meet(" + k + ")", x.meet(k), -1);
        }
        due("bound(0, 0, 2)", x.bound(0, 0, 2), 1);
    }

    private static void within() {
        says("promise 20");
        TimedYard x = withMachines(1);
        x.limit(0, 0, 1, 5, false);
        due("within(0) before a walk", x.within(0), -1);
        x.walk();
        due("all times: within(0)", x.within(0), 2);
        x.hand(2, 0);
        due("the same: within(0)", x.within(0), 3);
        x.tighten(1, 0, 5, true);
        due("tighter: within(0)", x.within(0), 1);
        x.pass();
        due("looser: within(0)", x.within(0), 2);
        x.tighten(0, 1, -1, false);
        due("neither: within(0)", x.within(0), 0);
        x.hand(3, 0);
        due("empty: within(0)", x.within(0), 1);
        for (int k : new int[] {1, -1, LEAST, MOST}) {
            due("within(" + k + ")", x.within(k), -1);
        }
    }

    private static void handBound() {
        says("promise 21");
        TimedYard x = new TimedYard();
        x.tighten(3, 2, 5, true);
        due("handBound(3, 2)", x.handBound(3, 2), 10);
        due("handBound(2, 3)", x.handBound(2, 3), A);
        due("handBound(3, 3)", x.handBound(3, 3), 1);
        int[][] bad = {{4, 0}, {0, 4}, {-1, 0}, {0, -1}, {LEAST, MOST}, {MOST, LEAST}};
        for (int[] b : bad) {
            due("handBound of a wrong input", x, t -> t.handBound(b[0], b[1]), ARGUMENT);
        }
        x.hand(3, 0);
        for (int at = 0; at < 16; at++) {
            due("empty: handBound", x.handBound(at / 4, at % 4), -2000000);
        }
        due("empty: handBound(4, 4)", x, t -> t.handBound(4, 4), ARGUMENT);
    }

    private static void count() {
        says("promise 22");
        TimedYard x = withMachines(3, 1);
        x.way(0, 0, 1, 0, 0);
        x.test(0, 0, 1, -12, false);
        x.test(0, 0, 8, 30, true);
        x.way(0, 1, 0, 0, 7);
        x.way(0, 1, 2, 0, 0);
        x.limit(1, 0, 2, 40, false);
        x.limit(0, 2, 1, 7, false);
        due("count(0)", x.count(0), 2);
        due("count(5) before a walk", x.count(5), 0);
        due("walk()", x.walk(), 2);
        int[] told = {2, 2, 2, 2, 1, 12, 40, 0, -1};
        for (int what = 0; what < 9; what++) {
            due("count(" + what + ")", x.count(what), told[what]);
        }
        for (int what : new int[] {-1, 8, LEAST, MOST}) {
            due("count(" + what + ")", x.count(what), -1);
        }
        // Tests of a way that nothing goes and signs count all the same.
        x.way(0, 2, 2, 5, 0);
        x.test(0, 3, 3, 99, false);
        x.test(0, 3, 12, -100, false);
        due("count(7) of the walk before", x.count(7), 0);
        x.walk();
        due("count(7)", x.count(7), 100);
        x.test(0, 3, 7, 1, false);
        due("count(7) of the walk before", x.count(7), 100);
        x.walk();
        for (int what = 5; what < 8; what++) {
            due("count(" + what + ") with a test on two clocks", x.count(what), -2);
        }
    }

    private static void countsOfASpentWalk() {
        says("promise 22");
        // Each state has one move that is covered and one that is new, in this order.
        TimedYard x = withMachines(1);
        x.way(0, 0, 0, 0, 0);
        x.way(0, 0, 0, 0, 1);
        x.test(0, 1, 1, -1, false);
        x.test(0, 1, 4, 1, false);
        x.test(0, 1, 9, 100, true);
        due("walk()", x.walk(), 101);
        due("count(3)", x.count(3), 201);
        due("count(4)", x.count(4), 101);
        TimedYard y = withMachines(1);
        y.way(0, 0, 0, 0, 0);
        y.way(0, 0, 0, 0, 1);
        y.test(0, 1, 1, -1, false);
        y.test(0, 1, 4, 1, false);
        y.way(0, 0, 0, 0, 0);
        y.test(0, 2, 6, -100, true);
        due("walk()", y.walk(), -202);
        due("count(2)", y.count(2), 199);
        // From where clock 2 leads by over 100 the third way can be gone, and is covered.
        due("count(3)", y.count(3), 199 * 2 + 98);
        due("count(4)", y.count(4), 199 + 98);
        due("state(198, 4)", y.state(198, 4), 1);
        due("state(199, 4)", y.state(199, 4), 0);
    }

    private static void keep() {
        says("promise 23");
        TimedYard x = withMachines(2);
        x.way(0, 0, 1, 0, 0);
        int[][] bad = {{-1, 0, 0, 0}, {8, 0, 0, 0}, {0, 5, 0, 0}, {0, -1, 0, 0}, {0, 1, 1, 0},
            {0, 1, 0, 1}, {0, 1, -1, 0}, {0, 1, 0, -1}, {0, 2, 1, 0}, {0, 2, 0, 2}, {0, 2, 0, -1},
            {0, 3, 0, 0}, {0, 4, 0, 0}, {MOST, MOST, MOST, MOST}, {LEAST, LEAST, LEAST, LEAST}};
        for (int[] b : bad) {
            due("keep of a wrong input", x.keep(b[0], b[1], b[2], b[3]), -1);
        }
        x.walk();
        due("keep(0, 1, 0, 0)", x.keep(0, 1, 0, 0), 0);
        due("keep(1, 2, 0, 1)", x.keep(1, 2, 0, 1), 0);
        x.test(0, 0, 1, -1, false);
        x.limit(0, 1, 1, 5, false);
        due("weight(0), as it was", x.weight(0), 10);
        due("weight(1), as it was", x.weight(1), 3);
        due("keep(2, 3, -1, -1)", x.keep(2, 3, -1, -1), 0);
        due("keep(7, 4, -1, 1)", x.keep(7, 4, -1, 1), 0);
        x.walk();
        due("element(2, 0)", x.element(2, 0), 0);
        due("element(2, 1)", x.element(2, 1), 1);
        due("element(2, 2)", x, t -> t.element(2, 2), STATE);
        long[] row = {1, 1, 1, 1, A, 1, 1, 1, A, 1, 1, 1, A, 1, 1, 1};
        for (int i = 0; i < 16; i++) {
            due("element(7, " + i + ")", x.element(7, i), row[i]);
        }
        due("element(7, 16)", x, t -> t.element(7, 16), STATE);
        due("keep(7, 4, 0, 2)", x.keep(7, 4, 0, 2), -1);
        due("keep(7, 0, -9, -9)", x.keep(7, 0, -9, -9), 0);
        due("weight(7)", x.weight(7), -11);
        // No more than 60 places.
        TimedYard y = endless();
        y.walk();
        due("keep(3, 3, 0, 0)", y.keep(3, 3, 0, 0), 0);
        due("element(3, 59)", y.element(3, 59), 0);
        due("element(3, 60)", y, t -> t.element(3, 60), STATE);
    }

    private static void make() {
        says("promise 24");
        TimedYard x = new TimedYard();
        due("make(0, 3, 60)", x.make(0, 3, 60), 0);
        due("make(7, 4, 60)", x.make(7, 4, 60), 0);
        due("element(0, 59)", x.element(0, 59), 0);
        due("element(7, 59)", x.element(7, 59), 0);
        due("element(7, 60)", x, t -> t.element(7, 60), STATE);
        due("copy of two kinds", x.copy(0, 0, 7, 0, 1), -12);
        int[][] bad = {{-1, 3, 1}, {8, 3, 1}, {0, 2, 1}, {0, 5, 1}, {0, 3, 61}, {0, 4, MOST},
            {8, 3, -1}, {0, 2, -1}, {LEAST, LEAST, LEAST}};
        for (int[] b : bad) {
            due("make of a wrong input", x.make(b[0], b[1], b[2]), -1);
        }
        due("make(0, 3, -1)", x.make(0, 3, -1), -14);
        due("make(0, 4, LEAST)", x.make(0, 4, LEAST), -14);
        due("element(0, 59)", x.element(0, 59), 0);
        due("make(0, 3, 0)", x.make(0, 3, 0), 0);
        due("element(0, 0)", x, t -> t.element(0, 0), STATE);
    }

    private static void element() {
        says("promise 25");
        TimedYard x = withMachines(1);
        x.way(0, 0, 0, 0, 0);
        x.keep(0, 1, 0, 0);
        x.keep(1, 2, 0, 0);
        x.make(2, 3, 3);
        for (int d : new int[] {-1, 8, LEAST, MOST}) {
            due("element(" + d + ", 0)", x, t -> t.element(d, 0), ARGUMENT);
        }
        due("element of a way", x, t -> t.element(0, 0), STATE);
        due("element of a place", x, t -> t.element(1, 0), STATE);
        due("element of nothing", x, t -> t.element(3, 0), STATE);
        for (int i : new int[] {-1, 3, LEAST, MOST}) {
            due("element(2, " + i + ")", x, t -> t.element(2, i), STATE);
        }
        due("element(2, 2)", x.element(2, 2), 0);
    }

    private static void copy() {
        says("promise 26");
        TimedYard x = withMachines(2);
        x.limit(0, 0, 1, 5, false);
        x.way(0, 0, 1, 0, 2);
        x.test(0, 0, 2, -2, false);
        x.walk();
        x.keep(0, 4, 0, 1);
        x.make(1, 4, 5);
        x.make(2, 3, 5);
        x.keep(3, 1, 0, 0);
        x.keep(4, 3, 0, 0);
        due("copy(0, 3, 1, 1, 4)", x.copy(0, 3, 1, 1, 4), 4);
        for (int i = 0; i < 5; i++) {
            due("element(1, " + i + ")", x.element(1, i), i == 0 ? 0 : x.element(0, 2 + i));
        }
        due("copy(4, 0, 2, 3, 2)", x.copy(4, 0, 2, 3, 2), 2);
        due("element(2, 4)", x.element(2, 4), 1);
        due("element(2, 3)", x.element(2, 3), 0);
        int[][] refused = {{-1, 0, 0, 0, 0, -1}, {8, 0, 0, 0, 0, -1}, {0, 0, -1, 0, 0, -1},
            {0, 0, 8, 0, 0, -1}, {5, 0, 8, 0, 0, -1}, {5, 0, 0, 0, 0, -11}, {0, 0, 5, 0, 0, -11},
            {3, 0, 5, 0, 0, -11}, {5, -1, 5, -1, -1, -11}, {3, 0, 0, 0, 0, -12}, {0, 0, 3, 0, 0, -12},
            {3, 0, 3, 0, 0, -12}, {0, 0, 2, 0, 0, -12}, {2, -1, 1, 0, 0, -12}, {0, -1, 1, 0, 1, -13},
            {0, 0, 1, -1, 1, -13}, {0, 0, 1, 0, -1, -13}, {0, 0, 1, 0, 6, -13}, {0, 13, 1, 0, 4, -13},
            {0, 0, 1, 2, 4, -13}, {0, 17, 1, 0, 0, -13}, {0, 0, 1, 6, 0, -13}, {0, MOST, 1, 0, 1, -13},
            {0, 0, 1, MOST, MOST, -13}, {0, 1, 1, 1, MOST, -13}, {0, LEAST, 1, LEAST, LEAST, -13},
            {0, 16, 1, 5, 0, 0}, {0, 0, 1, 0, 0, 0}};
        for (int[] r : refused) {
            due("copy(" + r[0] + ", " + r[1] + ", " + r[2] + ", " + r[3] + ", " + r[4] + ")",
                x.copy(r[0], r[1], r[2], r[3], r[4]), r[5]);
        }
        overlap(true);
        overlap(false);
    }

    /** Within one row all elements come as they were before, upwards and downwards. */
    private static void overlap(boolean up) {
        TimedYard x = withMachines(4);
        for (int p = 0; p < 3; p++) {
            x.way(0, p, p + 1, 0, 0);
        }
        x.walk();
        x.keep(0, 3, 0, 0);
        due("copy within a row", up ? x.copy(0, 0, 0, 1, 3) : x.copy(0, 1, 0, 0, 3), 3);
        int[] want = up ? new int[] {0, 0, 1, 2} : new int[] {1, 2, 3, 3};
        for (int i = 0; i < 4; i++) {
            due("element(0, " + i + ")", x.element(0, i), want[i]);
        }
    }

    private static void weight() {
        says("promise 27");
        TimedYard x = withMachines(1);
        x.limit(0, 0, 1, 5, false);
        x.limit(0, 0, 2, 5, false);
        int[] words = {0, 3, -3};
        int[] weights = {12, 112, 224};
        for (int w = 0; w < 3; w++) {
            x.way(0, 0, 0, words[w], 0);
            x.test(0, w, 1, 0, false);
            x.test(0, w, 2, 0, false);
            x.keep(w, 1, 0, w);
            due("weight(" + w + ")", x.weight(w), weights[w]);
        }
        x.keep(3, 2, 0, 0);
        due("weight(3)", x.weight(3), 5);
        x.make(4, 3, 1);
        x.make(5, 4, 1);
        due("weight(4)", x.weight(4), -12);
        due("weight(5)", x.weight(5), -12);
        due("weight(6)", x.weight(6), -11);
        for (int d : new int[] {-1, 8, LEAST, MOST}) {
            due("weight(" + d + ")", x.weight(d), -1);
        }
    }

    private static void toss() {
        says("promise 28");
        TimedYard x = withMachines(1);
        for (int word : new int[] {1, 9, -1, -9}) {
            int w = x.way(0, 0, 0, word, 0);
            x.keep(0, 1, 0, w);
            due("toss of word " + word, x.toss(0), Math.abs(word));
            due("toss of word " + word + " again", x.toss(0), Math.abs(word));
        }
        x.keep(0, 1, 0, x.way(0, 0, 0, 0, 0));
        due("toss without a word", x.toss(0), -15);
        x.keep(1, 2, 0, 0);
        x.make(2, 3, 1);
        x.make(3, 4, 1);
        due("toss of a place", x.toss(1), -12);
        due("toss of shorts", x.toss(2), -12);
        due("toss of longs", x.toss(3), -12);
        due("toss of nothing", x.toss(4), -11);
        for (int d : new int[] {-1, 8, LEAST, MOST}) {
            due("toss(" + d + ")", x.toss(d), -1);
        }
    }

    /** What is told of a walk stays, whatever comes to the machines. */
    private static void latestWalk() {
        says("promise 7");
        TimedYard x = withMachines(2);
        x.way(0, 0, 1, 0, 0);
        x.test(0, 0, 1, -3, false);
        due("walk()", x.walk(), 2);
        x.test(0, 0, 1, -9, true);
        x.limit(0, 1, 1, 20, false);
        x.way(0, 1, 0, 0, 0);
        x.machine();
        due("walk() is refused", x.walk(), -1);
        x.place(1);
        due("soonest(1)", x.soonest(1), 6);
        due("stuck(1)", x.stuck(1), 2);
        due("state(0, 1)", x.state(0, 1), -2);
        due("state(1, 5)", x.state(1, 5), 0);
        due("count(0)", x.count(0), 2);
        due("count(5)", x.count(5), 3);
        due("seen(-1, 0, -1)", x.seen(-1, 0, -1), -2);
        due("walk()", x.walk(), 2);
        due("soonest(1)", x.soonest(1), 19);
        due("stuck(1)", x.stuck(1), 0);
        due("state(0, 1)", x.state(0, 1), 0);
        due("state(1, 5)", x.state(1, 5), 1);
        due("count(5)", x.count(5), 20);
        due("seen(-1, 0, -1)", x.seen(-1, 0, -1), 0);
    }

    private static void refusedCallsChangeNothing() {
        says("promise 4");
        TimedYard x = withMachines(1);
        x.limit(0, 0, 1, 5, false);
        x.limit(0, 0, 2, 9, false);
        x.limit(0, 0, 1, 1, false);
        x.limit(0, 0, 3, 101, false);
        x.walk();
        due("bound(0, 1, 0)", x.bound(0, 1, 0), 11);
        due("count(7)", x.count(7), 0);
        says("promise 26");
        x.keep(0, 4, 0, 0);
        x.make(1, 4, 3);
        due("copy(0, 0, 1, 1, 3)", x.copy(0, 0, 1, 1, 3), -13);
        due("element(1, 1)", x.element(1, 1), 0);
        says("promise 24");
        due("make(0, 4, -2)", x.make(0, 4, -2), -14);
        due("element(0, 4)", x.element(0, 4), 11);
        says("promise 15");
        x.tighten(1, 0, 401, false);
        x.letGo(0, 0, 201);
        x.set(8);
        due("handBound(1, 0)", x.handBound(1, 0), A);
    }
}
