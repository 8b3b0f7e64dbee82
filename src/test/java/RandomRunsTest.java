import java.util.ArrayList;
import java.util.List;
import java.util.Random;

/** Many runs of calls, drawn from fixed seeds, on the class and on PlainYard: all answers agree. */
public final class RandomRunsTest {
    private static final long IAE = Long.MIN_VALUE;
    private static final long ISE = Long.MIN_VALUE + 1;
    private static final int[] WILD = {
        Integer.MIN_VALUE, Integer.MIN_VALUE + 1, -1000001, -101, -10, -2, -1, 0, 1, 2, 3, 4, 5, 6,
        7, 8, 9, 10, 11, 12, 15, 16, 60, 61, 100, 101, 199, 200, 201, 400, 401, 1000000,
        Integer.MAX_VALUE - 1, Integer.MAX_VALUE};

    private final Random random;
    private final TimedYard yard = new TimedYard();
    private final PlainYard plain = new PlainYard();
    private final List<String> calls = new ArrayList<>();
    private final boolean diagonals;
    private final int wildness;
    private final int longest;
    private int states;
    private int places = 1;
    private int wrong;

    private RandomRunsTest(long seed) {
        random = new Random(seed);
        diagonals = random.nextInt(3) == 0;
        wildness = random.nextBoolean() ? 40 : 400;
        longest = new int[] {2, 5, 12, 100}[random.nextInt(4)];
    }

    public static void main(String[] args) {
        int runs = args.length > 0 ? Integer.parseInt(args[0]) : 1600;
        int wrong = 0;
        for (int seed = 0; seed < runs && wrong == 0; seed++) {
            RandomRunsTest run = new RandomRunsTest(seed);
            if (seed % 2 == 0) {
                run.go();
            } else {
                run.goFar();
            }
            if (run.wrong > 0) {
                wrong++;
                System.out.println("run " + seed + ":");
                run.calls.forEach(System.out::println);
            }
        }
        System.out.println(wrong == 0 ? runs + " runs agree" : "a run does not agree");
        if (wrong != 0) {
            System.exit(1);
        }
    }

    private void go() {
        build();
        int rounds = 1 + random.nextInt(3);
        for (int round = 0; round < rounds && wrong == 0; round++) {
            call(5);
            for (int n = 0; n < 60 && wrong == 0; n++) {
                call(4 + random.nextInt(24));
            }
            look();
            for (int n = 0; n < 6 && wrong == 0; n++) {
                call(random.nextInt(5));
            }
        }
    }

    /** The hand alone, with bounds that have come near ANY. */
    private void goFar() {
        int[][] orders = {{1, 2, 3}, {1, 3, 2}, {2, 1, 3}, {2, 3, 1}, {3, 1, 2}, {3, 2, 1}};
        int[] order = orders[random.nextInt(6)];
        buildFar(order[1], order[2]);
        hand(random.nextInt(2), 0);
        growFar(order[0], order[1], order[2]);
        lookAtHand();
        if (random.nextBoolean()) {
            due("pass()", yard.pass(), plain.pass());
            tightenFar(order[1], 0, number(100, 400), false);
        }
        for (int n = 0; n < 40 && wrong == 0 && plain.handBound(0, 0) == 1; n++) {
            callFar(order[0]);
            lookAtHand();
        }
    }

    /** The clocks that count: in each state counter leads ticker by up to 100 more. */
    private void buildFar(int counter, int ticker) {
        due("machine()", yard.machine(), plain.machine());
        for (int p = 0; p < 6; p++) {
            due("place(0)", yard.place(0), plain.place(0));
        }
        way(0, 0, 1, 0, bit(counter) | bit(ticker));
        way(0, 1, 1, 0, bit(ticker));
        test(0, 1, 4 * ticker, 100, random.nextInt(3) == 0);
        test(0, 1, 4 * ticker + counter, 0, false);
        if (random.nextBoolean()) {
            test(0, 1, ticker, -number(1, 100), random.nextInt(3) == 0);
        }
        // A few states of other shapes come before the long row.
        for (int w = 2; w < 8; w++) {
            int from = random.nextBoolean() ? 0 : number(2, 4);
            way(0, from, Math.max(from, 1) + 1, 0, number(0, 7));
            int pair = number(0, 14);
            int c = pair / 4 == 0 ? -number(0, 100) : number(-100, 100);
            test(0, w, pair % 5 == 0 ? pair + 1 : pair, c, random.nextBoolean());
        }
        walk();
    }

    private static int bit(int clock) {
        return 1 << clock - 1;
    }

    /** Counts with both clocks while the third one, kept, comes to lead by about 500000. */
    private void growFar(int kept, int counter, int ticker) {
        due("pass()", yard.pass(), plain.pass());
        set(bit(ticker));
        tightenFar(kept, counter, 0, false);
        int goal = 2 * (499500 + random.nextInt(600));
        for (int n = 0; n < 100 && wrong == 0; n++) {
            int left = goal - yard.handBound(kept, counter);
            int step = states - 1;
            while (step > 0 && yard.bound(step, counter, ticker) > left) {
                step--;
            }
            if (left < 200 || step <= 0) {
                break;
            }
            meet(step);
            set(bit(counter) | bit(ticker));
            due("pass()", yard.pass(), plain.pass());
            set(bit(ticker));
        }
    }

    private void tightenFar(int i, int j, int c, boolean below) {
        due("tighten(" + i + ", " + j + ", " + c + ", " + below + ")",
            yard.tighten(i, j, c, below), plain.tighten(i, j, c, below));
    }

    /** Seldom a call that bounds the clock that leads, or lets it go: nothing is far then. */
    private void callFar(int kept) {
        int kind = random.nextInt(20);
        if (kind < 11) {
            int i = number(0, 3);
            int j = number(0, 3);
            int c = i == 0 ? number(-400, 0) : number(random.nextInt(3) == 0 ? -400 : 0, 400);
            if (i != kept || random.nextInt(20) == 0) {
                tightenFar(i, j, c, random.nextInt(4) == 0);
            }
        } else if (kind < 14) {
            due("pass()", yard.pass(), plain.pass());
        } else if (kind < 16) {
            meet(random.nextBoolean() ? number(0, 20) : someState());
        } else if (kind < 18) {
            set(bit(1 + (kept + random.nextInt(2)) % 3));
        } else if (kind == 18) {
            within(someState());
        } else if (random.nextInt(8) == 0) {
            letGo(number(0, 200), number(0, 200), number(0, 200));
        }
    }

    /** Mostly machines that can do something. */
    private void build() {
        int machines = 1 + random.nextInt(3);
        places = 1 + random.nextInt(4);
        for (int m = 0; m < machines; m++) {
            call(0);
            for (int p = 0; p < places; p++) {
                due("place(" + m + ")", yard.place(m), plain.place(m));
            }
        }
        int ways = random.nextInt(9 * machines);
        for (int w = 0; w < ways && wrong == 0; w++) {
            call(3);
        }
        int tests = random.nextInt(16);
        for (int t = 0; t < tests && wrong == 0; t++) {
            call(4);
        }
        int limits = random.nextInt(8);
        for (int t = 0; t < limits && wrong == 0; t++) {
            call(2);
        }
    }

    /** All that is told of the first states, and the whole hand. */
    private void look() {
        for (int k = 0; k < states + 1 && wrong == 0; k++) {
            int s = k < 25 ? k : states + 25 - k;
            if (k > 50) {
                break;
            }
            for (int what = 0; what < 7; what++) {
                due("state(" + s + ", " + what + ")", yard.state(s, what), plain.state(s, what));
            }
            due("soonest(" + s + ")", yard.soonest(s), plain.soonest(s));
            due("stuck(" + s + ")", yard.stuck(s), plain.stuck(s));
            for (int pair = 0; pair < 16; pair++) {
                int i = pair / 4;
                int j = pair % 4;
                due("bound(" + s + ", " + i + ", " + j + ")",
                    answer(() -> yard.bound(s, i, j)), answer(() -> plain.bound(s, i, j)));
            }
            if (s < states) {
                dueClosed("STATE " + s, (i, j) -> yard.bound(s, i, j));
            }
        }
        for (int what = 0; what < 8; what++) {
            due("count(" + what + ")", yard.count(what), plain.count(what));
        }
        lookAtHand();
    }

    private void lookAtHand() {
        for (int pair = 0; pair < 16; pair++) {
            int i = pair / 4;
            int j = pair % 4;
            due("handBound(" + i + ", " + j + ")",
                answer(() -> yard.handBound(i, j)), answer(() -> plain.handBound(i, j)));
        }
        if (yard.handBound(0, 0) != -2000000) {
            dueClosed("THE HAND", yard::handBound);
        }
    }

    private interface Bounds {
        int of(int i, int j);
    }

    /** 'gives CLOSED ones', by the Terms alone: no SUM is tighter, and no CLOCK is below 0. */
    private void dueClosed(String name, Bounds zone) {
        for (int i = 0; i < 4; i++) {
            boolean closed = zone.of(i, i) == 1 && zone.of(0, i) <= 1;
            for (int at = 0; at < 16; at++) {
                int j = at / 4;
                int k = at % 4;
                closed &= sum(zone.of(i, k), zone.of(k, j)) >= zone.of(i, j);
            }
            if (!closed) {
                due("CLOSED, of " + name + " and CLOCK " + i, 0, 1);
            }
        }
    }

    private static int sum(int a, int b) {
        boolean atMost = Math.floorMod(a, 2) == 1 && Math.floorMod(b, 2) == 1;
        int c = Math.floorDiv(a, 2) + Math.floorDiv(b, 2);
        return a == 1000000 || b == 1000000 ? 1000000 : atMost ? 2 * c + 1 : 2 * c;
    }

    private interface Call {
        long answer();
    }

    private static long answer(Call call) {
        try {
            return call.answer();
        } catch (IllegalArgumentException e) {
            return IAE;
        } catch (IllegalStateException e) {
            return ISE;
        }
    }

    private void due(String call, long got, long want) {
        calls.add("  " + call + " = " + got + (got == want ? "" : ", due is " + want));
        if (got != want) {
            wrong++;
        }
    }

    /** A number least .. most, and seldom any other one. */
    private int number(int least, int most) {
        if (random.nextInt(wildness) == 0) {
            return WILD[random.nextInt(WILD.length)];
        }
        return least + random.nextInt(most - least + 1);
    }

    private int someMachine() {
        return number(0, Math.max(0, plain.count(0) - 1));
    }

    private int someState() {
        return number(0, Math.max(0, states - 1));
    }

    private int somePair() {
        int[] withZero = {1, 2, 3, 4, 8, 12};
        if (!diagonals && random.nextInt(wildness) != 0) {
            return withZero[random.nextInt(6)];
        }
        int pair = number(0, 14);
        return pair % 5 == 0 ? pair + 1 : pair;
    }

    private int someWord() {
        return random.nextInt(3) > 0 ? 0 : number(-2, 2);
    }

    private void call(int kind) {
        int a = someMachine();
        boolean below = random.nextInt(3) == 0;
        switch (kind) {
            case 0: due("machine()", yard.machine(), plain.machine()); break;
            case 1: due("place(" + a + ")", yard.place(a), plain.place(a)); break;
            case 2: limit(a, number(0, places - 1), number(1, 3), number(0, longest), below); break;
            case 3: way(a, number(0, places - 1), number(0, places - 1), someWord(), number(0, 7));
                break;
            case 4: test(a, number(0, 5), below); break;
            case 5: walk(); break;
            case 6: state(someState(), number(0, 6)); break;
            case 7: bound(someState(), number(0, 3), number(0, 3)); break;
            case 8: seen(number(-1, 3), number(-1, 2), number(-1, 1)); break;
            case 9: lead(someState(), number(0, 3), number(0, 3)); break;
            case 10: soonest(someState()); break;
            case 11: stuck(someState()); break;
            case 12: hand(random.nextInt(20) == 0 ? 3 : number(0, 2), someState()); break;
            case 13: case 14: tighten(number(0, 3), number(0, 3), below); break;
            case 15: due("pass()", yard.pass(), plain.pass()); break;
            case 16: set(number(0, 7)); break;
            case 17: letGo(number(0, 20), number(0, 20), number(0, 20)); break;
            case 18: meet(someState()); break;
            case 19: within(someState()); break;
            case 20: count(number(0, 7)); break;
            case 21: case 22: keep(number(0, 3), number(0, 4), a, random.nextBoolean()
                ? number(0, 3) : someState()); break;
            case 23: make(number(0, 3), number(3, 4), number(0, 8)); break;
            case 24: element(number(0, 4), number(0, 17)); break;
            case 25: copy(number(0, 3), number(0, 4), number(0, 3), number(0, 4), number(0, 4));
                break;
            case 26: weight(number(0, 3)); break;
            default: toss(number(0, 3)); break;
        }
        if (kind >= 12 && kind <= 18) {
            lookAtHand();
        }
    }

    private void limit(int m, int p, int clock, int c, boolean below) {
        due("limit(" + m + ", " + p + ", " + clock + ", " + c + ", " + below + ")",
            yard.limit(m, p, clock, c, below), plain.limit(m, p, clock, c, below));
    }

    private void way(int m, int from, int to, int word, int sets) {
        due("way(" + m + ", " + from + ", " + to + ", " + word + ", " + sets + ")",
            yard.way(m, from, to, word, sets), plain.way(m, from, to, word, sets));
    }

    private void test(int m, int w, int pair, int c, boolean below) {
        due("test(" + m + ", " + w + ", " + pair + ", " + c + ", " + below + ")",
            yard.test(m, w, pair, c, below), plain.test(m, w, pair, c, below));
    }

    private void test(int m, int w, boolean below) {
        int pair = somePair();
        int i = pair / 4;
        int c = number(0, longest);
        // Tests that no time can meet would leave little to go through.
        if (i == 0 && c != Integer.MIN_VALUE) {
            c = -c;
        } else if (pair % 4 != 0 && random.nextBoolean()) {
            c = -c;
        }
        test(m, w, pair, c, below);
    }

    private void walk() {
        due("walk()", yard.walk(), plain.walk());
        states = plain.count(1);
    }

    private void state(int k, int what) {
        due("state(" + k + ", " + what + ")", yard.state(k, what), plain.state(k, what));
    }

    private void bound(int k, int i, int j) {
        due("bound(" + k + ", " + i + ", " + j + ")",
            answer(() -> yard.bound(k, i, j)), answer(() -> plain.bound(k, i, j)));
    }

    private void seen(int a, int b, int c) {
        due("seen(" + a + ", " + b + ", " + c + ")", yard.seen(a, b, c), plain.seen(a, b, c));
    }

    private void lead(int k, int i, int what) {
        due("lead(" + k + ", " + i + ", " + what + ")",
            yard.lead(k, i, what), plain.lead(k, i, what));
    }

    private void soonest(int k) {
        due("soonest(" + k + ")", yard.soonest(k), plain.soonest(k));
    }

    private void stuck(int k) {
        due("stuck(" + k + ")", yard.stuck(k), plain.stuck(k));
    }

    private void hand(int what, int k) {
        due("hand(" + what + ", " + k + ")", yard.hand(what, k), plain.hand(what, k));
    }

    private void tighten(int i, int j, boolean below) {
        int c = i == 0 ? number(-10, 2) : number(-4, 20);
        due("tighten(" + i + ", " + j + ", " + c + ", " + below + ")",
            yard.tighten(i, j, c, below), plain.tighten(i, j, c, below));
    }

    private void set(int clocks) {
        due("set(" + clocks + ")", yard.set(clocks), plain.set(clocks));
    }

    private void letGo(int a, int b, int c) {
        due("letGo(" + a + ", " + b + ", " + c + ")", yard.letGo(a, b, c), plain.letGo(a, b, c));
    }

    private void meet(int k) {
        due("meet(" + k + ")", yard.meet(k), plain.meet(k));
    }

    private void within(int k) {
        due("within(" + k + ")", yard.within(k), plain.within(k));
    }

    private void count(int what) {
        due("count(" + what + ")", yard.count(what), plain.count(what));
    }

    private void keep(int d, int what, int m, int k) {
        due("keep(" + d + ", " + what + ", " + m + ", " + k + ")",
            yard.keep(d, what, m, k), plain.keep(d, what, m, k));
    }

    private void make(int d, int what, int n) {
        due("make(" + d + ", " + what + ", " + n + ")", yard.make(d, what, n), plain.make(d, what, n));
    }

    private void element(int d, int i) {
        due("element(" + d + ", " + i + ")",
            answer(() -> yard.element(d, i)), answer(() -> plain.element(d, i)));
    }

    private void copy(int d, int i, int e, int j, int n) {
        due("copy(" + d + ", " + i + ", " + e + ", " + j + ", " + n + ")",
            yard.copy(d, i, e, j, n), plain.copy(d, i, e, j, n));
    }

    private void weight(int d) {
        due("weight(" + d + ")", yard.weight(d), plain.weight(d));
    }

    private void toss(int d) {
        due("toss(" + d + ")", yard.toss(d), plain.toss(d));
    }
}
