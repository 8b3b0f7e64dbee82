/**
 * Each number that a call takes, on both sides of its range: the last that is taken, the first that
 * is refused, the least and the greatest int, and those that would come into the range by a
 * wrap-around of 2 c, of 4 i + j, or of a shift.
 */
public final class RangesTest extends YardCheck {
    private interface Number {
        long of(TimedYard x, int n);
    }

    public static void main(String[] args) {
        machines();
        places();
        limits();
        ways();
        words();
        tests();
        pairs();
        states();
        twoHundredStates();
        bounds();
        seen();
        leads();
        hands();
        tightened();
        setsAndLetGo();
        counts();
        kept();
        sixtyAreKept();
        made();
        elements();
        shelves();
        end("all ranges are as due");
    }

    private static void taken(String name, Maker yard, Number call, int least, int most,
            long answer) {
        for (int n = least; n <= most; n++) {
            int taken = n;
            due(name + " with " + n, yard.make(), x -> call.of(x, taken), answer);
        }
    }

    /** What lies beside least .. most; each on a new object, as for those that are taken. */
    private static void refused(String name, Maker yard, Number call, int least, int most,
            long refusal) {
        int[] beside = {least - 1, most + 1, LEAST, LEAST + 1, MOST - 1, MOST};
        for (int n : beside) {
            due(name + " with " + n, yard.make(), x -> call.of(x, n), refusal);
        }
        for (int bit = 10; bit < 32; bit++) {
            int toLeast = least ^ 1 << bit;
            int toMost = most ^ 1 << bit;
            due(name + " with " + toLeast, yard.make(), x -> call.of(x, toLeast), refusal);
            due(name + " with " + toMost, yard.make(), x -> call.of(x, toMost), refusal);
        }
    }

    /** All of least .. most are taken, with one and the same answer, and no other number is. */
    private static void range(String name, Maker yard, Number call, int least, int most,
            long answer, long refusal) {
        taken(name, yard, call, least, most, answer);
        refused(name, yard, call, least, most, refusal);
    }

    private static void machines() {
        says("MACHINES 0 .. 2");
        TimedYard x = new TimedYard();
        due("machine()", x.machine(), 0);
        due("machine()", x.machine(), 1);
        due("machine()", x.machine(), 2);
        due("machine()", x.machine(), -2);
        due("machine()", x.machine(), -2);
        due("place(2)", x.place(2), 0);
        due("place(3)", x.place(3), -1);

        says("A PLACE comes to MACHINE m: -1");
        refused("place(m) of none", TimedYard::new, TimedYard::place, 0, -1, -1);
        range("place(m) of 1", () -> withMachines(0), TimedYard::place, 0, 0, 0, -1);
        range("place(m) of 2", () -> withMachines(0, 0), TimedYard::place, 0, 1, 0, -1);
        range("place(m) of 3", () -> withMachines(0, 0, 0), TimedYard::place, 0, 2, 0, -1);
    }

    private static void places() {
        says("PLACES 0 .. 5");
        for (int m = 0; m < 3; m++) {
            TimedYard x = withMachines(0, 0, 0);
            for (int p = 0; p < 6; p++) {
                due("limit of a place that is still to come", x.limit(m, p, 1, 5, false), -1);
                due("place(m)", x.place(m), p);
                due("limit of the last place", x.limit(m, p, 1, 5, false), 1);
            }
            due("place(m)", x.place(m), -2);
            due("place(m)", x.place(m), -2);
            due("limit of place 6", x.limit(m, 6, 1, 5, false), -1);
            due("place of another", x.place((m + 1) % 3), 0);
        }
    }

    private static void limits() {
        Maker yard = () -> withMachines(6, 1);
        says("limit: -1 no such MACHINE, PLACE");
        range("limit(m, ..)", yard, (x, m) -> x.limit(m, 0, 1, 5, false), 0, 1, 1, -1);
        range("limit(0, p, ..)", yard, (x, p) -> x.limit(0, p, 1, 5, false), 0, 5, 1, -1);
        range("limit(1, p, ..)", yard, (x, p) -> x.limit(1, p, 1, 5, false), 0, 0, 1, -1);
        says("CLOCK 1 .. 3 is at most c");
        range("limit(0, 0, clock, ..)", yard, (x, i) -> x.limit(0, 0, i, 5, false), 1, 3, 1, -1);
        says("a CLOCK is at most, or below, c there (0 .. 100)");
        range("limit(0, 0, 1, c, false)", yard, (x, c) -> x.limit(0, 0, 1, c, false), 0, 100, 1, -1);
        range("limit(0, 0, 1, c, true)", yard, (x, c) -> x.limit(0, 0, 1, c, true), 0, 100, 1, -1);
        int[][] firsts = {{0, 0, 1}, {100, 0, 201}, {1, 1, 2}, {100, 1, 200}};
        for (int[] f : firsts) {
            TimedYard x = withMachines(1);
            x.limit(0, 0, 2, f[0], f[1] == 1);
            due("walk()", x.walk(), 1);
            due("bound(0, 2, 0) by " + f[0], x.bound(0, 2, 0), f[2]);
        }

        says("A PLACE has LIMITS (at most 2)");
        TimedYard x = withMachines(2);
        due("limit(0, 0, ..)", x.limit(0, 0, 1, 5, false), 1);
        due("limit(0, 0, ..)", x.limit(0, 0, 1, 5, false), 2);
        due("limit(0, 0, ..)", x.limit(0, 0, 1, 5, false), -2);
        due("limit(0, 0, ..)", x.limit(0, 0, 2, 1, true), -2);
        due("limit(0, 1, ..)", x.limit(0, 1, 2, 1, true), 1);
    }

    private static void ways() {
        Maker yard = () -> withMachines(6, 1);
        says("way: -1 no such MACHINE");
        range("way(m, ..)", yard, (x, m) -> x.way(m, 0, 0, 0, 0), 0, 1, 0, -1);
        says("A WAY leads from a PLACE to one of the same MACHINE");
        range("way(0, from, ..)", yard, (x, p) -> x.way(0, p, 0, 0, 0), 0, 5, 0, -1);
        range("way(0, 0, to, ..)", yard, (x, p) -> x.way(0, 0, p, 0, 0), 0, 5, 0, -1);
        range("way(1, from, ..)", yard, (x, p) -> x.way(1, p, 0, 0, 0), 0, 0, 0, -1);
        range("way(1, 0, to, ..)", yard, (x, p) -> x.way(1, 0, p, 0, 0), 0, 0, 0, -1);
        refused("way of no places", () -> withMachines(0), (x, p) -> x.way(0, p, p, 0, 0), 0, -1, -1);
        says("sets: bits 1, 2, 4 for CLOCKS 1, 2, 3");
        range("way(0, 0, 0, 0, sets)", yard, (x, n) -> x.way(0, 0, 0, 0, n), 0, 7, 0, -1);

        says("WAYS 0 .. 11");
        TimedYard x = withMachines(1, 1);
        for (int w = 0; w < 12; w++) {
            due("test of a way that is still to come", x.test(0, w, 1, 0, false), -1);
            due("way(0, ..)", x.way(0, 0, 0, 0, 0), w);
            due("test of the last way", x.test(0, w, 1, 0, false), 1);
        }
        due("way(0, ..)", x.way(0, 0, 0, 0, 0), -2);
        due("way(0, ..)", x.way(0, 0, 0, 9, 7), -2);
        due("test of way 12", x.test(0, 12, 1, 0, false), -1);
        due("way(1, ..)", x.way(1, 0, 0, 0, 0), 0);
    }

    private static void words() {
        Maker yard = () -> withMachines(2, 2);
        says("WORD: 0 none, 1 .. 9 it gives that, -1 .. -9 it takes the one without the sign");
        range("way(0, 0, 0, word, 0)", yard, (x, n) -> x.way(0, 0, 0, n, 0), -9, 9, 0, -1);
        for (int given = -9; given <= 9; given++) {
            for (int taken = -9; taken <= 9; taken++) {
                TimedYard x = withMachines(2, 2);
                x.way(0, 0, 1, given, 0);
                x.way(1, 0, 1, taken, 0);
                int states = given == 0 && taken == 0 ? 4
                    : given == 0 || taken == 0 || given == -taken ? 2 : 1;
                due("walk() with words " + given + ", " + taken, x.walk(), states);
                if (given != 0 && given == -taken) {
                    due("the one that gives " + given, x.lead(1, 0, 0), given > 0 ? 0 : 1);
                    due("the one that takes " + taken, x.lead(1, 0, 2), given > 0 ? 1 : 0);
                }
            }
        }
    }

    private static TimedYard withWays(int ways) {
        TimedYard x = withMachines(1, 1);
        for (int w = 0; w < ways; w++) {
            x.way(0, 0, 0, 0, 0);
        }
        x.way(1, 0, 0, 0, 0);
        return x;
    }

    private static void tests() {
        Maker yard = () -> withWays(3);
        says("test: -1 no such MACHINE, WAY");
        range("test(m, ..)", yard, (x, m) -> x.test(m, 0, 1, 0, false), 0, 1, 1, -1);
        range("test(0, w, ..)", yard, (x, w) -> x.test(0, w, 1, 0, false), 0, 2, 1, -1);
        range("test(1, w, ..)", yard, (x, w) -> x.test(1, w, 1, 0, false), 0, 0, 1, -1);
        refused("test of no ways", () -> withWays(0), (x, w) -> x.test(0, w, 1, 0, false), 0, -1, -1);
        range("test of 12 ways", () -> withWays(12), (x, w) -> x.test(0, w, 1, 0, false), 0, 11, 1, -1);
        says("BOUNDS on two CLOCKS (c -100 .. 100)");
        range("test(0, 0, 1, c, false)", yard, (x, c) -> x.test(0, 0, 1, c, false), -100, 100, 1, -1);
        range("test(0, 0, 14, c, true)", yard, (x, c) -> x.test(0, 0, 14, c, true), -100, 100, 1, -1);
        int[][] soonest = {{-100, 0, 200}, {-100, 1, 201}, {0, 0, 0}, {0, 1, 1}, {100, 0, 0}};
        for (int[] s : soonest) {
            TimedYard x = withMachines(2);
            x.way(0, 0, 1, 0, 0);
            x.test(0, 0, 1, s[0], s[1] == 1);
            due("walk()", x.walk(), 2);
            due("soonest(1) by " + s[0], x.soonest(1), s[2]);
        }

        says("has TESTS (at most 3)");
        TimedYard x = withWays(2);
        for (int n = 1; n < 4; n++) {
            due("test(0, 0, ..)", x.test(0, 0, 1, 0, false), n);
        }
        due("test(0, 0, ..)", x.test(0, 0, 1, 0, false), -2);
        due("test(0, 0, ..)", x.test(0, 0, 14, 100, true), -2);
        due("test(0, 1, ..)", x.test(0, 1, 1, 0, false), 1);
    }

    private static void pairs() {
        says("on CLOCKS i, j told as 4 i + j (i not j)");
        Maker yard = () -> withWays(1);
        for (int pair = 0; pair < 16; pair++) {
            due("test with pair " + pair, withWays(1).test(0, 0, pair, 0, false),
                pair / 4 == pair % 4 ? -1 : 1);
        }
        refused("test(0, 0, pair, ..)", yard, (x, pair) -> x.test(0, 0, pair, 0, false), 1, 14, -1);
        refused("test(0, 0, pair, ..)", yard, (x, pair) -> x.test(0, 0, pair, 0, false), 0, 15, -1);
    }

    private static void states() {
        Maker none = () -> withMachines(1, 1);
        Maker three = () -> walked(ladder(1));
        says("-1: no such STATE (there was no walk)");
        refused("state(k, 0)", none, (x, k) -> x.state(k, 0), 0, -1, -1);
        refused("soonest(k)", none, TimedYard::soonest, 0, -1, -1);
        refused("stuck(k)", none, TimedYard::stuck, 0, -1, -1);
        refused("lead(k, 0, 0)", none, (x, k) -> x.lead(k, 0, 0), 0, -1, -1);
        refused("meet(k)", none, TimedYard::meet, 0, -1, -1);
        refused("within(k)", none, TimedYard::within, 0, -1, -1);
        refused("hand(2, k)", none, (x, k) -> x.hand(2, k), 0, -1, -1);
        refused("keep(0, 4, 0, k)", none, (x, k) -> x.keep(0, 4, 0, k), 0, -1, -1);
        refused("bound(k, 0, 0)", none, (x, k) -> x.bound(k, 0, 0), 0, -1, ARGUMENT);

        says("-1: no such STATE (there are 3)");
        range("state(k, 0)", three, (x, k) -> x.state(k, 0), 0, 2, 0, -1);
        range("soonest(k)", three, (x, k) -> Math.min(x.soonest(k), 0), 0, 2, 0, -1);
        range("stuck(k)", three, (x, k) -> Math.min(x.stuck(k), 0), 0, 2, 0, -1);
        range("lead(k, 0, 1)", three, (x, k) -> x.lead(k, 0, 1), 1, 2, 0, -1);
        range("meet(k)", three, TimedYard::meet, 0, 2, 0, -1);
        range("within(k)", three, TimedYard::within, 0, 2, 2, -1);
        range("hand(2, k)", three, (x, k) -> x.hand(2, k), 0, 2, 0, -1);
        range("keep(0, 4, 0, k)", three, (x, k) -> x.keep(0, 4, 0, k), 0, 2, 0, -1);
        range("bound(k, 0, 0)", three, (x, k) -> x.bound(k, 0, 0), 0, 2, 1, ARGUMENT);

        says("state: 0 .. 2 the PLACE, .., 6 how many MOVES lead there");
        int[] told = {0, -2, -2, 1, 0, 0, 2};
        for (int what = 0; what < 7; what++) {
            due("state(2, " + what + ")", three.make().state(2, what), told[what]);
        }
        refused("state(2, what)", three, (x, what) -> x.state(2, what), 0, 6, -1);
    }

    private static void twoHundredStates() {
        says("200 at most");
        Maker yard = () -> walked(endless());
        Call[] lasts = {x -> x.state(199, 6), x -> x.soonest(199), x -> x.lead(199, 198, 1),
            x -> x.meet(199), x -> x.within(199), x -> x.hand(2, 199), x -> x.keep(0, 4, 0, 199),
            x -> x.bound(199, 2, 1), x -> x.count(1)};
        long[] answers = {199, 398, 0, 0, 2, 0, 0, 399, 200};
        Call[] beyond = {x -> x.state(200, 6), x -> x.soonest(200), x -> x.lead(199, 199, 1),
            x -> x.meet(200), x -> x.within(200), x -> x.hand(2, 200), x -> x.keep(0, 4, 0, 200),
            x -> x.bound(200, 2, 1), x -> x.lead(200, 0, 0)};
        for (int n = 0; n < lasts.length; n++) {
            due("the last STATE, call " + n, yard.make(), lasts[n], answers[n]);
            due("STATE 200, call " + n, yard.make(), beyond[n], n == 7 ? ARGUMENT : -1);
        }
        says("stuck: -1: no such STATE, or it wasn't LOOKED AT");
        due("stuck(198)", yard.make().stuck(198), 0);
        due("stuck(199)", yard.make().stuck(199), -1);
        due("stuck(200)", yard.make().stuck(200), -1);
        says("state: 5 -2 if it wasn't LOOKED AT");
        due("state(198, 5)", yard.make().state(198, 5), 1);
        due("state(199, 5)", yard.make().state(199, 5), -2);
        due("state(200, 5)", yard.make().state(200, 5), -1);
    }

    private static void bounds() {
        says("bound: IllegalArgumentException: no such");
        Maker yard = () -> walked(ladder(1));
        refused("bound(1, i, 2)", yard, (x, i) -> x.bound(1, i, 2), 0, 3, ARGUMENT);
        refused("bound(1, 2, j)", yard, (x, j) -> x.bound(1, 2, j), 0, 3, ARGUMENT);
        int[] rowTwo = {A, 3, 1, 1};
        int[] columnTwo = {-1, -1, 1, 1};
        for (int i = 0; i < 4; i++) {
            due("bound(1, 2, " + i + ")", yard.make().bound(1, 2, i), rowTwo[i]);
            due("bound(1, " + i + ", 2)", yard.make().bound(1, i, 2), columnTwo[i]);
        }
        says("handBound: IllegalArgumentException: no such CLOCKS");
        taken("handBound(i, 0)", TimedYard::new, (x, i) -> x.handBound(i, 0), 1, 3, A);
        refused("handBound(i, 0)", TimedYard::new, (x, i) -> x.handBound(i, 0), 0, 3, ARGUMENT);
        range("handBound(0, j)", TimedYard::new, (x, j) -> x.handBound(0, j), 0, 3, 1, ARGUMENT);
    }

    private static void seen() {
        says("seen: -1: below -1, or above 5");
        Maker yard = () -> walked(withMachines(6, 6, 6));
        Number[] calls = {(x, n) -> x.seen(n, 0, 0), (x, n) -> x.seen(0, n, 0),
            (x, n) -> x.seen(0, 0, n)};
        for (int m = 0; m < 3; m++) {
            String name = "seen with a number of MACHINE " + m;
            taken(name, yard, calls[m], -1, 0, 0);
            taken(name, yard, calls[m], 1, 5, -2);
            refused(name, yard, calls[m], -1, 5, -1);
            // So it is without STATES, too.
            taken(name, TimedYard::new, calls[m], -1, 5, -2);
            refused(name, TimedYard::new, calls[m], -1, 5, -1);
        }
        says("The first STATE with these PLACES (-1: any one)");
        TimedYard x = withMachines(6);
        for (int p = 0; p < 5; p++) {
            x.way(0, p, p + 1, 0, 0);
        }
        due("walk()", x.walk(), 6);
        for (int p = -1; p < 6; p++) {
            due("seen(" + p + ", -1, -1)", x.seen(p, -1, -1), Math.max(p, 0));
        }
    }

    private static void leads() {
        says("lead: MOVE i, from 0, of those that lead to STATE k; -1: no such");
        Maker yard = () -> walked(ladder(8));
        for (int k = 0; k < 10; k++) {
            int to = k;
            range("lead(" + k + ", i, 1)", yard, (x, i) -> x.lead(to, i, 1), 0, k - 1, 0, -1);
        }
        int[] told = {0, 0, -2, -2};
        for (int what = 0; what < 4; what++) {
            due("lead(9, 8, " + what + ")", yard.make().lead(9, 8, what), told[what]);
        }
        refused("lead(9, 8, what)", yard, (x, what) -> x.lead(9, 8, what), 0, 3, -1);
    }

    private static void hands() {
        says("hand: what = 0 all times, 1 all CLOCKS 0, 2 that of STATE k, 3 EMPTY: 0. -1");
        Maker yard = () -> walked(ladder(1));
        range("hand(what, 0)", yard, (x, what) -> x.hand(what, 0), 0, 3, 0, -1);
        for (int what : new int[] {0, 1, 3}) {
            for (int k : new int[] {LEAST, -1, 0, 2, 3, 200, MOST}) {
                due("hand(" + what + ", " + k + ")", yard.make().hand(what, k), 0);
            }
        }
    }

    private static void tightened() {
        Maker yard = TimedYard::new;
        says("tighten: -1: no such CLOCKS (i and j one, too)");
        taken("tighten(i, 0, 5, false)", yard, (x, i) -> x.tighten(i, 0, 5, false), 1, 3, 0);
        taken("tighten(0, j, -5, false)", yard, (x, j) -> x.tighten(0, j, -5, false), 1, 3, 0);
        refused("tighten(i, 0, 5, false)", yard, (x, i) -> x.tighten(i, 0, 5, false), 1, 3, -1);
        refused("tighten(i, 1, 5, false)", yard, (x, i) -> x.tighten(i, 1, 5, false), 0, 3, -1);
        refused("tighten(0, j, -5, false)", yard, (x, j) -> x.tighten(0, j, -5, false), 1, 3, -1);
        refused("tighten(1, j, 5, false)", yard, (x, j) -> x.tighten(1, j, 5, false), 0, 3, -1);
        for (int pair = 0; pair < 16; pair++) {
            due("tighten of pair " + pair, new TimedYard().tighten(pair / 4, pair % 4, 5, false),
                pair / 4 == pair % 4 ? -1 : 0);
        }
        says("TIGHTENED (c -400 .. 400)");
        range("tighten(1, 2, c, false)", yard, (x, c) -> x.tighten(1, 2, c, false), -400, 400, 0, -1);
        range("tighten(0, 2, c, true)", yard, (x, c) -> x.tighten(0, 2, c, true), -400, 400, 0, -1);
        int[][] bounds = {{1, 2, 400, 0, 801}, {1, 2, 400, 1, 800}, {1, 2, -400, 0, -799},
            {1, 2, -400, 1, -800}, {0, 2, -400, 0, -799}, {0, 2, 400, 0, 1}, {2, 0, 400, 1, 800}};
        for (int[] b : bounds) {
            TimedYard x = new TimedYard();
            x.tighten(b[0], b[1], b[2], b[3] == 1);
            due("handBound by " + b[2], x.handBound(b[0], b[1]), b[4]);
        }
    }

    private static void setsAndLetGo() {
        says("set: -1: not 0 .. 7");
        range("set(n)", TimedYard::new, TimedYard::set, 0, 7, 0, -1);
        says("GREATEST numbers (0 .. 200 each)");
        range("letGo(n, 0, 0)", TimedYard::new, (x, n) -> x.letGo(n, 0, 0), 0, 200, 0, -1);
        range("letGo(0, n, 0)", TimedYard::new, (x, n) -> x.letGo(0, n, 0), 0, 200, 0, -1);
        range("letGo(0, 0, n)", TimedYard::new, (x, n) -> x.letGo(0, 0, n), 0, 200, 0, -1);
        for (int clock = 1; clock < 4; clock++) {
            TimedYard x = new TimedYard();
            x.tighten(clock, 0, 200, false);
            x.letGo(200, 200, 200);
            due("handBound(" + clock + ", 0)", x.handBound(clock, 0), 401);
        }
    }

    private static void counts() {
        says("count: -1 for others");
        Maker yard = () -> walked(ladder(1));
        int[] told = {1, 3, 3, 2, 0, -2, -2, -2};
        for (int what = 0; what < 8; what++) {
            due("count(" + what + ")", yard.make().count(what), told[what]);
        }
        refused("count(what)", yard, TimedYard::count, 0, 7, -1);
        says("0 (5 to 7: 0) without a walk");
        range("count(what)", TimedYard::new, TimedYard::count, 0, 7, 0, -1);
    }

    private static TimedYard fullMachine() {
        TimedYard x = withMachines(6, 1);
        for (int w = 0; w < 12; w++) {
            x.way(0, 0, 0, 0, 0);
        }
        x.way(1, 0, 0, 0, 0);
        x.walk();
        return x;
    }

    private static void kept() {
        Maker yard = RangesTest::fullMachine;
        says("SHELVES 0 .. 7");
        for (int what = 0; what < 5; what++) {
            int kind = what;
            range("keep(d, " + what + ", 0, 0)", yard, (x, d) -> x.keep(d, kind, 0, 0), 0, 7, 0, -1);
        }
        says("keep: what = 0 nothing; .. 4 a ROW of longs. -1");
        range("keep(0, what, 0, 0)", yard, (x, what) -> x.keep(0, what, 0, 0), 0, 4, 0, -1);
        says("1 WAY k of MACHINE m");
        range("keep(0, 1, m, 0)", yard, (x, m) -> x.keep(0, 1, m, 0), 0, 1, 0, -1);
        range("keep(0, 1, 0, k)", yard, (x, k) -> x.keep(0, 1, 0, k), 0, 11, 0, -1);
        range("keep(0, 1, 1, k)", yard, (x, k) -> x.keep(0, 1, 1, k), 0, 0, 0, -1);
        says("2 PLACE k of MACHINE m");
        range("keep(0, 2, m, 0)", yard, (x, m) -> x.keep(0, 2, m, 0), 0, 1, 0, -1);
        range("keep(0, 2, 0, k)", yard, (x, k) -> x.keep(0, 2, 0, k), 0, 5, 0, -1);
        range("keep(0, 2, 1, k)", yard, (x, k) -> x.keep(0, 2, 1, k), 0, 0, 0, -1);
        says("4 a ROW of longs: the BOUNDS of STATE k's ZONE");
        range("keep(0, 4, 0, k)", yard, (x, k) -> x.keep(0, 4, 0, k), 0, 0, 0, -1);
        says("what is not told of is not looked at: 0 nothing, 3 MACHINE 0, 4 STATE k");
        for (int n : new int[] {LEAST, -1, 2, 12, MOST}) {
            due("keep(0, 0, " + n + ", " + n + ")", yard.make().keep(0, 0, n, n), 0);
            due("keep(0, 3, " + n + ", " + n + ")", yard.make().keep(0, 3, n, n), 0);
            due("keep(0, 4, " + n + ", 0)", yard.make().keep(0, 4, n, 0), 0);
        }
    }

    private static void sixtyAreKept() {
        says("PLACES of MACHINE 0, STATE by STATE (at most the first 60)");
        int[][] sizes = {{1, 1}, {59, 59}, {60, 60}, {61, 60}, {102, 60}};
        for (int[] s : sizes) {
            TimedYard x = s[0] == 1 ? withMachines(1) : ladder(s[0] - 2);
            due("walk()", x.walk(), s[0]);
            due("keep(0, 3, 0, 0)", x.keep(0, 3, 0, 0), 0);
            due("element(0, 0)", x, y -> y.element(0, 0), 0);
            due("element(0, " + (s[1] - 1) + ")", x, y -> y.element(0, s[1] - 1), 0);
            due("element(0, " + s[1] + ")", x, y -> y.element(0, s[1]), STATE);
        }
        says("keep: -1 (3: without a walk, or MACHINES then)");
        due("keep(0, 3, 0, 0)", new TimedYard().keep(0, 3, 0, 0), -1);
        due("keep(0, 3, 0, 0)", withMachines(1).keep(0, 3, 0, 0), -1);
        due("keep(0, 3, 0, 0)", walked(withMachines(1, 0)).keep(0, 3, 0, 0), -1);
        due("keep(0, 3, 0, 0)", walked(withMachines(1)).keep(0, 3, 0, 0), 0);
    }

    private static void made() {
        Maker yard = TimedYard::new;
        says("make: SHELF d. -1");
        range("make(d, 3, 1)", yard, (x, d) -> x.make(d, 3, 1), 0, 7, 0, -1);
        says("(what 3, 4; n up to 60)");
        range("make(0, what, 1)", yard, (x, what) -> x.make(0, what, 1), 3, 4, 0, -1);
        for (int what = 3; what < 5; what++) {
            int kind = what;
            taken("make(0, " + what + ", n)", yard, (x, n) -> x.make(0, kind, n), 0, 60, 0);
            for (int n : new int[] {61, 62, 128, 1 << 28, 1 << 29, 1 << 30, MOST - 1, MOST}) {
                due("make(0, " + what + ", " + n + ")", new TimedYard().make(0, what, n), -1);
            }
            for (int n : new int[] {-1, -2, -60, -61, LEAST + 60, LEAST + 1, LEAST}) {
                due("make(0, " + what + ", " + n + ")", new TimedYard().make(0, what, n), -14);
            }
        }
    }

    private static TimedYard withRow(int what, int n) {
        TimedYard x = new TimedYard();
        for (int d = 0; d < 8; d++) {
            x.make(d, what, n);
        }
        return x;
    }

    private static void elements() {
        for (int what = 3; what < 5; what++) {
            int kind = what;
            says("element: IllegalArgumentException: no such SHELF");
            range("element(d, 0)", () -> withRow(kind, 1), (x, d) -> x.element(d, 0), 0, 7, 0, ARGUMENT);
            says("element: IllegalStateException: it has no such place");
            for (int n : new int[] {0, 1, 2, 59, 60}) {
                range("element(7, i) of " + n, () -> withRow(kind, n), (x, i) -> x.element(7, i),
                    0, n - 1, 0, STATE);
            }
        }
        says("element: IllegalStateException: nothing is held, it is no ROW");
        TimedYard x = fullMachine();
        x.keep(1, 1, 0, 0);
        x.keep(2, 2, 0, 0);
        for (int i : new int[] {LEAST, -1, 0, 1, MOST}) {
            for (int d = 0; d < 3; d++) {
                int shelf = d;
                due("element(" + d + ", " + i + ")", x, y -> y.element(shelf, i), STATE);
            }
        }
    }

    private static void shelves() {
        Maker ways = () -> {
            TimedYard x = withMachines(1);
            x.way(0, 0, 0, 3, 0);
            for (int d = 0; d < 8; d++) {
                x.keep(d, 1, 0, 0);
            }
            return x;
        };
        says("weight: -1");
        range("weight(d)", ways, TimedYard::weight, 0, 7, 110, -1);
        says("toss: -1");
        range("toss(d)", ways, TimedYard::toss, 0, 7, 3, -1);
        says("copy: -1");
        range("copy(d, 0, 0, 0, 1)", () -> withRow(3, 1), (x, d) -> x.copy(d, 0, 0, 0, 1), 0, 7, 1, -1);
        range("copy(0, 0, e, 0, 1)", () -> withRow(4, 1), (x, e) -> x.copy(0, 0, e, 0, 1), 0, 7, 1, -1);
    }
}
