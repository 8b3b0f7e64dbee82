/**
 * 'Answers of several refusals are the first one here: -1 no such thing, a number out of range, or not
 * as told; -2, -3, -11 to -15 as told': each call with every choice of wrong numbers at once, where
 * it is refused for something else too, or would answer -2 for what is not there.
 */
public final class RefusalsTest extends YardCheck {
    private interface Numbers {
        long of(TimedYard x, int[] n);
    }

    public static void main(String[] args) {
        says("Answers of several refusals are the first one here: -1, then -2");
        building();
        telling();
        handling();
        says("Answers of several refusals are the first one here: -1, then -11 to -15");
        keeping();
        making();
        copying();
        weighing();
        says("element: IllegalArgumentException before IllegalStateException");
        elements();
        says("walk: -1: there is no MACHINE, or one without PLACES");
        walking();
        end("all refusals are as due");
    }

    /** Of each number the first choice is right and the others are wrong: all of their mixtures. */
    private static void mixtures(String name, Maker yard, Numbers call, int[][] choices, long right,
            long refusal) {
        int all = 1;
        for (int[] c : choices) {
            all *= c.length;
        }
        for (int mixture = 0; mixture < all; mixture++) {
            int[] n = new int[choices.length];
            boolean wrong = false;
            int left = mixture;
            for (int at = 0; at < n.length; at++) {
                n[at] = choices[at][left % choices[at].length];
                wrong |= left % choices[at].length > 0;
                left /= choices[at].length;
            }
            due(name + " with " + java.util.Arrays.toString(n), yard.make(), x -> call.of(x, n),
                wrong ? refusal : right);
        }
    }

    private static TimedYard full() {
        TimedYard x = withMachines(6, 1);
        x.limit(0, 0, 1, 5, false);
        x.limit(0, 0, 2, 5, false);
        for (int w = 0; w < 12; w++) {
            x.way(0, 0, 0, 0, 0);
            for (int t = 0; t < 3; t++) {
                x.test(0, w, 1, 0, false);
            }
        }
        return x;
    }

    private static TimedYard spacious() {
        TimedYard x = withMachines(1);
        x.way(0, 0, 0, 0, 0);
        return x;
    }

    private static void building() {
        TimedYard x = full();
        x.machine();
        due("machine()", x.machine(), -2);
        int[][] m = {{0, -1, 3, LEAST, MOST}};
        mixtures("place of a full one", RefusalsTest::full, (y, n) -> y.place(n[0]), m, -2, -1);
        int[][] limit = {{0, -1, 2}, {0, -1, 6, MOST}, {1, 0, 4, -1, LEAST}, {100, 101, -1, MOST}};
        Numbers limits = (y, n) -> y.limit(n[0], n[1], n[2], n[3], true);
        mixtures("limit of a full one", RefusalsTest::full, limits, limit, -2, -1);
        mixtures("limit", RefusalsTest::spacious, limits, limit, 1, -1);
        int[][] way = {{0, -1, 2}, {0, -1, 6, MOST}, {0, -1, 6, LEAST}, {9, 10, -10, MOST},
            {7, 8, -1, LEAST}};
        Numbers ways = (y, n) -> y.way(n[0], n[1], n[2], n[3], n[4]);
        mixtures("way of a full one", RefusalsTest::full, ways, way, -2, -1);
        mixtures("way", RefusalsTest::spacious, ways, way, 1, -1);
        int[][] test = {{0, -1, 2}, {0, -1, 12, MOST}, {1, 0, 5, 10, 15, 16, -1, LEAST},
            {-100, -101, 101, LEAST}};
        Numbers tests = (y, n) -> y.test(n[0], n[1], n[2], n[3], true);
        mixtures("test of a full one", RefusalsTest::full, tests, test, -2, -1);
        mixtures("test", RefusalsTest::spacious, tests, test, 1, -1);
    }

    private static void telling() {
        Maker three = () -> walked(ladder(1));
        int[] wrongState = {1, -1, 3, 200, LEAST, MOST};
        int[] wrongClock = {2, -1, 4, LEAST, MOST};
        int[][] state = {wrongState, {1, -1, 7, LEAST, MOST}};
        mixtures("state of no MACHINE", three, (x, n) -> x.state(n[0], n[1]), state, -2, -1);
        int[][] first = {{0, -1, 3}, {3, -1, 7}};
        mixtures("state that came of none", three, (x, n) -> x.state(n[0], n[1]), first, -2, -1);
        int[][] last = {{199, -1, 200, LEAST, MOST}, {5, -1, 7}};
        mixtures("state not LOOKED AT", () -> walked(endless()), (x, n) -> x.state(n[0], n[1]),
            last, -2, -1);
        int[][] lead = {wrongState, {0, 1, -1, LEAST, MOST}, {2, 4, -1, LEAST, MOST}};
        mixtures("lead of none that takes", three, (x, n) -> x.lead(n[0], n[1], n[2]), lead, -2, -1);
        int[] wrongPlace = {5, -2, 6, LEAST, MOST};
        int[][] seen = {wrongPlace, wrongPlace, wrongPlace};
        mixtures("seen of none", three, (x, n) -> x.seen(n[0], n[1], n[2]), seen, -2, -1);
        int[][] bound = {wrongState, wrongClock, wrongClock};
        mixtures("bound", three, (x, n) -> x.bound(n[0], n[1], n[2]), bound, 1, ARGUMENT);
    }

    private static TimedYard withEmptyHand() {
        TimedYard x = walked(ladder(1));
        x.hand(3, 0);
        return x;
    }

    private static void handling() {
        Maker empty = RefusalsTest::withEmptyHand;
        int[] wrongState = {1, -1, 3, 200, LEAST, MOST};
        int[] wrongClock = {2, -1, 4, LEAST, MOST};
        int[] wrongGreatest = {200, 201, -1, LEAST, MOST};
        int[][] hand = {{2, -1, 4, LEAST, MOST}, wrongState};
        mixtures("hand", empty, (x, n) -> x.hand(n[0], n[1]), hand, 0, -1);
        int[][] tighten = {wrongClock, {0, 2, -1, 4, LEAST, MOST}, {400, 401, -401, LEAST, MOST}};
        mixtures("tighten of all times", TimedYard::new,
            (x, n) -> x.tighten(n[0], n[1], n[2], false), tighten, 0, -1);
        says("An EMPTY one stays so: what is not as told is refused all the same");
        mixtures("tighten of an EMPTY one", empty,
            (x, n) -> x.tighten(n[0], n[1], n[2], false), tighten, 1, -1);
        mixtures("set of an EMPTY one", empty, (x, n) -> x.set(n[0]),
            new int[][] {{7, 8, -1, LEAST, MOST}}, 1, -1);
        int[][] letGo = {wrongGreatest, wrongGreatest, wrongGreatest};
        mixtures("letGo of an EMPTY one", empty, (x, n) -> x.letGo(n[0], n[1], n[2]), letGo, 1, -1);
        mixtures("meet of an EMPTY one", empty, (x, n) -> x.meet(n[0]), new int[][] {wrongState}, 1, -1);
        mixtures("within of an EMPTY one", empty, (x, n) -> x.within(n[0]),
            new int[][] {wrongState}, 1, -1);
        int[][] clocks = {wrongClock, wrongClock};
        mixtures("handBound of an EMPTY one", empty, (x, n) -> x.handBound(n[0], n[1]), clocks,
            -2000000, ARGUMENT);
    }

    private static void keeping() {
        Maker yard = () -> walked(spacious());
        int[] shelf = {7, -1, 8, LEAST, MOST};
        int[] number = {0, -1, 1, LEAST, MOST};
        for (int what : new int[] {1, 2}) {
            mixtures("keep of " + what, yard, (x, n) -> x.keep(n[0], what, n[1], n[2]),
                new int[][] {shelf, number, number}, 0, -1);
        }
        mixtures("keep of 4", yard, (x, n) -> x.keep(n[0], 4, -1, n[1]),
            new int[][] {shelf, number}, 0, -1);
        mixtures("keep of 0", yard, (x, n) -> x.keep(n[0], 0, -1, -1), new int[][] {shelf}, 0, -1);
        mixtures("keep of 3", yard, (x, n) -> x.keep(n[0], n[1], -1, -1),
            new int[][] {shelf, {3, -1, 5, LEAST, MOST}}, 0, -1);
        mixtures("keep of 3 without a walk", RefusalsTest::spacious,
            (x, n) -> x.keep(n[0], 3, 0, 0), new int[][] {shelf}, -1, -1);
    }

    private static void making() {
        int[] shelf = {7, -1, 8, LEAST, MOST};
        int[] what = {4, 2, 5, 0, LEAST, MOST};
        for (int n : new int[] {-1, LEAST}) {
            mixtures("make of a size below 0", TimedYard::new, (x, a) -> x.make(a[0], a[1], n),
                new int[][] {shelf, what}, -14, -1);
        }
        mixtures("make", TimedYard::new, (x, a) -> x.make(a[0], a[1], a[2]),
            new int[][] {shelf, what, {60, 61, MOST}}, 0, -1);
    }

    /** SHELVES 0 and 7 hold nothing, 1 a WAY, 2 a PLACE, 3, 5 three shorts, 4, 6 three longs. */
    private static TimedYard withShelves() {
        TimedYard x = spacious();
        x.keep(1, 1, 0, 0);
        x.keep(2, 2, 0, 0);
        for (int d = 3; d < 7; d++) {
            x.make(d, d % 2 == 1 ? 3 : 4, 3);
        }
        return x;
    }

    private static boolean isShelf(int d) {
        return d >= 0 && d <= 7;
    }

    private static long dueOfCopy(int d, int e, boolean inside, int n) {
        if (!isShelf(d) || !isShelf(e)) {
            return -1;
        }
        if (d % 7 == 0 || e % 7 == 0) {
            return -11;
        }
        if (d < 3 || e < 3 || d % 2 != e % 2) {
            return -12;
        }
        return inside ? n : -13;
    }

    private static void copying() {
        int[] shelves = {LEAST, -1, 0, 1, 2, 3, 4, 5, 6, 7, 8, MOST};
        int[][] outside = {{-1, 0, 1}, {0, -1, 1}, {0, 0, -1}, {4, 0, 0}, {0, 4, 0}, {0, 0, 4},
            {3, 0, 1}, {0, 3, 1}, {LEAST, LEAST, LEAST}, {MOST, MOST, MOST}, {1, 1, MOST}};
        int[][] inside = {{0, 0, 3}, {3, 3, 0}, {2, 0, 1}};
        for (int d : shelves) {
            for (int e : shelves) {
                for (int[] o : outside) {
                    due("copy(" + d + ", " + o[0] + ", " + e + ", " + o[1] + ", " + o[2] + ")",
                        withShelves(), x -> x.copy(d, o[0], e, o[1], o[2]),
                        dueOfCopy(d, e, false, o[2]));
                }
                for (int[] i : inside) {
                    due("copy(" + d + ", " + i[0] + ", " + e + ", " + i[1] + ", " + i[2] + ")",
                        withShelves(), x -> x.copy(d, i[0], e, i[1], i[2]),
                        dueOfCopy(d, e, true, i[2]));
                }
            }
        }
    }

    private static void weighing() {
        long[] weights = {-11, 10, 3, -12, -12, -12, -12, -11};
        long[] tossed = {-11, -15, -12, -12, -12, -12, -12, -11};
        TimedYard x = withShelves();
        for (int d = 0; d < 8; d++) {
            due("weight(" + d + ")", x.weight(d), weights[d]);
            due("toss(" + d + ")", x.toss(d), tossed[d]);
        }
        for (int d : new int[] {LEAST, -1, 8, MOST}) {
            due("weight(" + d + ")", x.weight(d), -1);
            due("toss(" + d + ")", x.toss(d), -1);
        }
    }

    private static void elements() {
        for (int d : new int[] {LEAST, -1, 0, 1, 2, 3, 4, 7, 8, MOST}) {
            for (int i : new int[] {LEAST, -1, 0, 2, 3, MOST}) {
                boolean there = (d == 3 || d == 4) && i >= 0 && i < 3;
                due("element(" + d + ", " + i + ")", withShelves(), x -> x.element(d, i),
                    !isShelf(d) ? ARGUMENT : there ? 0 : STATE);
            }
        }
    }

    /** A LIMIT that leaves no STATES, and a MACHINE without PLACES. */
    private static void walking() {
        TimedYard x = withMachines(1);
        x.limit(0, 0, 1, 0, true);
        due("walk()", x.walk(), 0);
        x.machine();
        due("walk()", x.walk(), -1);
        x.place(1);
        due("walk()", x.walk(), 0);
        due("walk() of none", new TimedYard().walk(), -1);
        due("walk() of 0 PLACES", withMachines(0).walk(), -1);
        due("walk() of 1, 0 PLACES", withMachines(1, 0).walk(), -1);
        due("walk() of 0, 1 PLACES", withMachines(0, 1).walk(), -1);
        due("walk() of 1, 1, 0 PLACES", withMachines(1, 1, 0).walk(), -1);
        due("walk() of 1, 0, 1 PLACES", withMachines(1, 0, 1).walk(), -1);
        due("walk() of 1, 1, 1 PLACES", withMachines(1, 1, 1).walk(), 1);
    }
}
