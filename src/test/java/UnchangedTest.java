import java.util.ArrayList;
import java.util.LinkedHashMap;
import java.util.List;
import java.util.Map;

/**
 * 'A refused call changes nothing': a yard after a refused call and one without it answer alike, in
 * all that is told of the walk, the hand and the shelves, then in a walk anew, then in what comes next.
 */
public final class UnchangedTest extends YardCheck {
    private static final int MOST_CALLS = 512;
    /** Calls that each yard, and the refused call, may take of these. */
    private static final int TO_BUILD = 110;

    private record Refused(Call call, long refusal) { }

    private final Map<String, Refused> calls = new LinkedHashMap<>();
    private final String name;
    private final Maker yard;

    private UnchangedTest(String name, Maker yard) {
        this.name = name;
        this.yard = yard;
    }

    public static void main(String[] args) {
        says("A refused call changes nothing");
        fullYard();
        spaciousYard();
        emptyHand();
        unwalked();
        notToBeWalked();
        end("refused calls change nothing");
    }

    private void refused(String call, long refusal, Call refusedCall) {
        if (calls.put(call, new Refused(refusedCall, refusal)) != null) {
            throw new IllegalStateException(call + " is there twice");
        }
    }

    private void check() {
        List<Long> untouched = allTold(yard.make());
        due(name + ": more calls than an object is used for",
            Math.max(untouched.size() + TO_BUILD, MOST_CALLS), MOST_CALLS);
        for (Map.Entry<String, Refused> entry : calls.entrySet()) {
            TimedYard x = yard.make();
            due(name + ": " + entry.getKey(), x, entry.getValue().call, entry.getValue().refusal);
            List<Long> touched = allTold(x);
            for (int at = 0; at < untouched.size(); at++) {
                due(name + ": after " + entry.getKey() + " what is told at " + at,
                    touched.get(at), untouched.get(at));
            }
        }
    }

    private static List<Long> allTold(TimedYard x) {
        List<Long> told = new ArrayList<>();
        tellWalk(x, told, 5);
        for (int at = 0; at < 16; at++) {
            told.add((long) x.handBound(at / 4, at % 4));
        }
        told.add((long) x.within(0));
        tellShelves(x, told);
        // What came to the machines shows in a walk anew, and in the numbers of what comes next.
        told.add((long) x.walk());
        tellWalk(x, told, 4);
        told.add((long) x.pass());
        told.add((long) x.tighten(1, 0, 100, false));
        for (int m = 0; m < 3; m++) {
            told.add((long) x.limit(m, 0, 1, 100, false));
            told.add((long) x.limit(m, 1, 1, 100, false));
            told.add((long) x.way(m, 0, 0, 0, 0));
            told.add((long) x.test(m, 0, 1, 0, false));
            told.add((long) x.test(m, 1, 1, 0, false));
            told.add((long) x.place(m));
        }
        told.add((long) x.machine());
        return told;
    }

    private static void tellWalk(TimedYard x, List<Long> told, int states) {
        for (int what = 0; what < 8; what++) {
            told.add((long) x.count(what));
        }
        told.add((long) x.seen(1, -1, -1));
        for (int k = 0; k < states; k++) {
            int state = k;
            for (int what = 0; what < 7; what++) {
                told.add((long) x.state(k, what));
            }
            for (int at = 0; at < 16; at++) {
                int pair = at;
                told.add(answer(x, y -> y.bound(state, pair / 4, pair % 4)));
            }
            told.add((long) x.soonest(k));
            told.add((long) x.stuck(k));
            told.add((long) x.lead(k, 0, 0));
            told.add((long) x.lead(k, 0, 1));
        }
    }

    private static void tellShelves(TimedYard x, List<Long> told) {
        for (int d = 0; d < 8; d++) {
            int shelf = d;
            told.add((long) x.weight(d));
            told.add((long) x.toss(d));
            for (int i : new int[] {0, 1, 2, 3, 4, 15, 16}) {
                told.add(answer(x, y -> y.element(shelf, i)));
            }
        }
    }

    /** SHELVES: 0 a WAY with a WORD, 1 one without, 2 a PLACE, 3, 4 ROWS of 5, 5, 6 others, 7 none. */
    private static void fillShelves(TimedYard x) {
        x.keep(0, 1, 0, 0);
        x.keep(1, 1, 0, 1);
        x.keep(2, 2, 0, 0);
        x.keep(3, 3, 0, 0);
        x.keep(4, 4, 0, 1);
        x.make(5, 3, 5);
        x.make(6, 4, 5);
    }

    private static void handOfFive(TimedYard x) {
        x.hand(1, 0);
        x.pass();
        x.tighten(1, 0, 5, false);
        x.tighten(0, 3, -2, true);
        x.set(2);
    }

    private static TimedYard fullMachines() {
        TimedYard x = withMachines(6, 2, 1);
        x.limit(0, 0, 1, 5, false);
        x.limit(0, 0, 2, 9, true);
        x.way(0, 0, 1, 4, 1);
        x.way(0, 1, 2, 0, 0);
        for (int w = 2; w < 12; w++) {
            x.way(0, w % 6, (w + 1) % 6, 0, w % 8);
        }
        x.test(0, 0, 1, -2, false);
        x.test(0, 0, 4, 4, true);
        x.test(0, 0, 8, 7, false);
        x.test(0, 1, 2, -6, false);
        x.way(1, 0, 1, -4, 2);
        x.way(1, 1, 1, 0, 0);
        x.limit(1, 1, 2, 30, false);
        x.walk();
        fillShelves(x);
        handOfFive(x);
        return x;
    }

    private static void fullYard() {
        UnchangedTest t = new UnchangedTest("full", UnchangedTest::fullMachines);
        t.refused("machine()", -2, TimedYard::machine);
        t.refused("place(0)", -2, x -> x.place(0));
        t.refused("limit(0, 0, ..)", -2, x -> x.limit(0, 0, 1, 1, true));
        t.refused("limit(0, 0, 3, ..)", -2, x -> x.limit(0, 0, 3, 0, false));
        t.refused("way(0, ..)", -2, x -> x.way(0, 0, 3, 0, 7));
        t.refused("test(0, 0, ..)", -2, x -> x.test(0, 0, 1, -4, true));
        t.refused("test(0, 0, 9, ..)", -2, x -> x.test(0, 0, 9, 0, true));
        for (int m : new int[] {LEAST, -1, 3, MOST}) {
            t.refused("place(" + m + ")", -1, x -> x.place(m));
            t.refused("limit(" + m + ", ..)", -1, x -> x.limit(m, 0, 1, 1, false));
            t.refused("way(" + m + ", ..)", -1, x -> x.way(m, 0, 0, 0, 0));
            t.refused("test(" + m + ", ..)", -1, x -> x.test(m, 0, 1, 0, false));
        }
        wrongShelves(t);
        t.check();
    }

    private static void wrongShelves(UnchangedTest t) {
        for (int d = 0; d < 8; d++) {
            int shelf = d;
            t.refused("keep(" + d + ", 1, 3, 0)", -1, x -> x.keep(shelf, 1, 3, 0));
            t.refused("keep(" + d + ", 1, 0, 12)", -1, x -> x.keep(shelf, 1, 0, 12));
            t.refused("keep(" + d + ", 2, 0, 6)", -1, x -> x.keep(shelf, 2, 0, 6));
            t.refused("keep(" + d + ", 4, 0, 200)", -1, x -> x.keep(shelf, 4, 0, 200));
            t.refused("keep(" + d + ", 5, 0, 0)", -1, x -> x.keep(shelf, 5, 0, 0));
            t.refused("keep(" + d + ", -1, 0, 0)", -1, x -> x.keep(shelf, -1, 0, 0));
            t.refused("make(" + d + ", 3, -1)", -14, x -> x.make(shelf, 3, -1));
            t.refused("make(" + d + ", 4, LEAST)", -14, x -> x.make(shelf, 4, LEAST));
            t.refused("make(" + d + ", 3, 61)", -1, x -> x.make(shelf, 3, 61));
            t.refused("make(" + d + ", 4, MOST)", -1, x -> x.make(shelf, 4, MOST));
            t.refused("make(" + d + ", 2, 3)", -1, x -> x.make(shelf, 2, 3));
            t.refused("make(" + d + ", 5, 3)", -1, x -> x.make(shelf, 5, 3));
            t.refused("element(" + d + ", -1)", STATE, x -> x.element(shelf, -1));
        }
        for (int d : new int[] {LEAST, -1, 8, MOST}) {
            t.refused("keep(" + d + ", 0, 0, 0)", -1, x -> x.keep(d, 0, 0, 0));
            t.refused("make(" + d + ", 3, 1)", -1, x -> x.make(d, 3, 1));
            t.refused("element(" + d + ", 0)", ARGUMENT, x -> x.element(d, 0));
            t.refused("copy(" + d + ", 0, 5, 0, 2)", -1, x -> x.copy(d, 0, 5, 0, 2));
            t.refused("copy(3, 0, " + d + ", 0, 2)", -1, x -> x.copy(3, 0, d, 0, 2));
            t.refused("weight(" + d + ")", -1, x -> x.weight(d));
            t.refused("toss(" + d + ")", -1, x -> x.toss(d));
        }
        t.refused("copy(7, 0, 5, 0, 2)", -11, x -> x.copy(7, 0, 5, 0, 2));
        t.refused("copy(3, 0, 7, 0, 2)", -11, x -> x.copy(3, 0, 7, 0, 2));
        t.refused("copy(3, 0, 6, 0, 2)", -12, x -> x.copy(3, 0, 6, 0, 2));
        t.refused("copy(4, 0, 5, 0, 2)", -12, x -> x.copy(4, 0, 5, 0, 2));
        t.refused("copy(0, 0, 5, 0, 2)", -12, x -> x.copy(0, 0, 5, 0, 2));
        t.refused("copy(4, 0, 6, 0, 6)", -13, x -> x.copy(4, 0, 6, 0, 6));
        t.refused("copy(4, 3, 6, 2, 4)", -13, x -> x.copy(4, 3, 6, 2, 4));
        t.refused("copy(4, 14, 6, 0, 3)", -13, x -> x.copy(4, 14, 6, 0, 3));
        t.refused("copy(4, 4, 4, 13, 4)", -13, x -> x.copy(4, 4, 4, 13, 4));
        t.refused("copy(4, 4, 6, -1, 3)", -13, x -> x.copy(4, 4, 6, -1, 3));
        t.refused("copy(4, 4, 6, 0, MOST)", -13, x -> x.copy(4, 4, 6, 0, MOST));
        t.refused("toss(1)", -15, x -> x.toss(1));
        t.refused("toss(2)", -12, x -> x.toss(2));
        t.refused("toss(7)", -11, x -> x.toss(7));
        t.refused("weight(3)", -12, x -> x.weight(3));
        t.refused("weight(7)", -11, x -> x.weight(7));
    }

    private static TimedYard twoMachines() {
        TimedYard x = withMachines(3, 2);
        x.way(0, 0, 1, 4, 0);
        x.way(0, 0, 2, 0, 0);
        x.way(1, 0, 1, -4, 0);
        x.way(1, 0, 0, 0, 0);
        x.limit(0, 2, 1, 40, false);
        x.walk();
        fillShelves(x);
        handOfFive(x);
        return x;
    }

    private static void spaciousYard() {
        UnchangedTest t = new UnchangedTest("spacious", UnchangedTest::twoMachines);
        wrongParts(t);
        wrongStates(t);
        wrongHands(t);
        t.check();
    }

    private static void wrongParts(UnchangedTest t) {
        for (int n : new int[] {LEAST, -1, 3, MOST}) {
            t.refused("limit(0, " + n + ", ..)", -1, x -> x.limit(0, n, 1, 1, false));
            t.refused("way(0, " + n + ", 1, ..)", -1, x -> x.way(0, n, 1, 0, 0));
            t.refused("way(0, 1, " + n + ", ..)", -1, x -> x.way(0, 1, n, 0, 0));
            t.refused("test(0, " + n + ", ..)", -1, x -> x.test(0, n, 1, -1, false));
        }
        for (int clock : new int[] {LEAST, -1, 0, 4, MOST}) {
            t.refused("limit(0, 0, " + clock + ", ..)", -1, x -> x.limit(0, 0, clock, 1, false));
        }
        for (int c : new int[] {LEAST, LEAST + 1, -1, 101, MOST}) {
            t.refused("limit(0, 0, 1, " + c + ")", -1, x -> x.limit(0, 0, 1, c, false));
        }
        for (int word : new int[] {LEAST, -10, 10, MOST}) {
            t.refused("way(0, 0, 1, " + word + ")", -1, x -> x.way(0, 0, 1, word, 0));
        }
        for (int sets : new int[] {LEAST, -1, 8, MOST}) {
            t.refused("way(0, 0, 1, 0, " + sets + ")", -1, x -> x.way(0, 0, 1, 0, sets));
        }
        for (int pair : new int[] {LEAST, -1, 0, 5, 10, 15, 16, MOST}) {
            t.refused("test(0, 1, " + pair + ", ..)", -1, x -> x.test(0, 1, pair, -1, false));
        }
        for (int c : new int[] {LEAST, -101, 101, MOST}) {
            t.refused("test(0, 1, 9, " + c + ")", -1, x -> x.test(0, 1, 9, c, false));
        }
    }

    private static void wrongStates(UnchangedTest t) {
        for (int k : new int[] {LEAST, -1, 99, 200, MOST}) {
            t.refused("state(" + k + ", 0)", -1, x -> x.state(k, 0));
            t.refused("bound(" + k + ", 1, 0)", ARGUMENT, x -> x.bound(k, 1, 0));
            t.refused("lead(" + k + ", 0, 0)", -1, x -> x.lead(k, 0, 0));
            t.refused("soonest(" + k + ")", -1, x -> x.soonest(k));
            t.refused("stuck(" + k + ")", -1, x -> x.stuck(k));
            t.refused("count(" + k + ")", -1, x -> x.count(k));
        }
        for (int n : new int[] {LEAST, -2, 6, MOST}) {
            t.refused("seen(" + n + ", 0, 0)", -1, x -> x.seen(n, 0, 0));
            t.refused("bound(0, " + n + ", 0)", ARGUMENT, x -> x.bound(0, n, 0));
            t.refused("handBound(0, " + n + ")", ARGUMENT, x -> x.handBound(0, n));
        }
    }

    private static void wrongHands(UnchangedTest t) {
        for (int n : new int[] {LEAST, -1, 99, MOST}) {
            t.refused("hand(2, " + n + ")", -1, x -> x.hand(2, n));
            t.refused("hand(" + n + ", 0)", -1, x -> x.hand(n, 0));
            t.refused("tighten(" + n + ", 0, ..)", -1, x -> x.tighten(n, 0, 0, true));
            t.refused("tighten(0, " + n + ", ..)", -1, x -> x.tighten(0, n, -9, true));
            t.refused("set(" + n + ")", -1, x -> x.set(n));
            t.refused("meet(" + n + ")", -1, x -> x.meet(n));
            t.refused("within(" + n + ")", -1, x -> x.within(n));
        }
        t.refused("hand(4, 0)", -1, x -> x.hand(4, 0));
        t.refused("set(8)", -1, x -> x.set(8));
        for (int i = 0; i < 4; i++) {
            int clock = i;
            t.refused("tighten(" + i + ", " + i + ", -1, true)", -1,
                x -> x.tighten(clock, clock, -1, true));
        }
        for (int c : new int[] {LEAST, LEAST + 1, -401, 401, MOST}) {
            t.refused("tighten(1, 0, " + c + ")", -1, x -> x.tighten(1, 0, c, false));
            t.refused("tighten(0, 1, " + c + ")", -1, x -> x.tighten(0, 1, c, true));
        }
        for (int n : new int[] {LEAST, -1, 201, MOST}) {
            t.refused("letGo(" + n + ", 0, 0)", -1, x -> x.letGo(n, 0, 0));
            t.refused("letGo(0, " + n + ", 0)", -1, x -> x.letGo(0, n, 0));
            t.refused("letGo(0, 0, " + n + ")", -1, x -> x.letGo(0, 0, n));
        }
    }

    private static void emptyHand() {
        UnchangedTest t = new UnchangedTest("EMPTY", () -> {
            TimedYard x = twoMachines();
            x.hand(3, 0);
            return x;
        });
        wrongHands(t);
        t.check();
    }

    /** All that wants a STATE is refused, and so is a ROW of PLACES. */
    private static void unwalked() {
        UnchangedTest t = new UnchangedTest("unwalked", () -> {
            TimedYard x = withMachines(2, 2);
            x.way(0, 0, 1, 1, 0);
            x.way(0, 0, 1, 0, 0);
            handOfFive(x);
            x.keep(3, 1, 0, 0);
            x.make(4, 4, 5);
            return x;
        });
        t.refused("hand(2, 0)", -1, x -> x.hand(2, 0));
        t.refused("meet(0)", -1, x -> x.meet(0));
        t.refused("within(0)", -1, x -> x.within(0));
        t.refused("keep(3, 3, 0, 0)", -1, x -> x.keep(3, 3, 0, 0));
        t.refused("keep(4, 3, 0, 0)", -1, x -> x.keep(4, 3, 0, 0));
        t.refused("keep(4, 4, 0, 0)", -1, x -> x.keep(4, 4, 0, 0));
        t.refused("state(0, 0)", -1, x -> x.state(0, 0));
        t.refused("bound(0, 0, 0)", ARGUMENT, x -> x.bound(0, 0, 0));
        t.check();
    }

    /** The walk before stays the latest one when a walk is refused. */
    private static void notToBeWalked() {
        UnchangedTest walkedBefore = new UnchangedTest("a MACHINE without PLACES", () -> {
            TimedYard x = twoMachines();
            x.machine();
            return x;
        });
        walkedBefore.refused("walk()", -1, TimedYard::walk);
        walkedBefore.check();
        UnchangedTest never = new UnchangedTest("no PLACES", () -> withMachines(0));
        never.refused("walk()", -1, TimedYard::walk);
        never.check();
        UnchangedTest none = new UnchangedTest("no MACHINES", TimedYard::new);
        none.refused("walk()", -1, TimedYard::walk);
        none.check();
    }
}
