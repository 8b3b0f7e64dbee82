/**
 * 'An object is used for at most 512 calls after it has been made': the 512th one still answers as
 * the first one did, whichever call it is, and calls of one kind alone are as good as others.
 */
public final class MostCallsTest extends YardCheck {
    private static final int MOST_CALLS = 512;

    public static void main(String[] args) {
        says("An object is used for at most 512 calls after it has been made");
        sameAnswers();
        machinesStayFull();
        handGrowsToTheLast();
        shelvesChangeToTheLast();
        walksChangeToTheLast();
        end("all of 512 calls are answered");
    }

    /** Each call fills what is left of the 512, on a yard whose walk ends SPENT; 13 calls build it. */
    private static void sameAnswers() {
        Call[] calls = {TimedYard::walk, x -> x.state(199, 6), x -> x.bound(199, 2, 1),
            x -> x.seen(5, -1, -1), x -> x.lead(199, 0, 1), x -> x.soonest(199), x -> x.stuck(198),
            x -> x.hand(2, 199), x -> x.tighten(1, 0, 5, false), TimedYard::pass, x -> x.set(7),
            x -> x.letGo(1, 2, 3), x -> x.meet(199), x -> x.within(199), x -> x.handBound(1, 1),
            x -> x.count(3), x -> x.keep(7, 1, 0, 0), x -> x.keep(7, 3, 0, 0), x -> x.keep(7, 4, 0, 199),
            x -> x.make(7, 4, 60), x -> x.element(1, 59), x -> x.element(1, 60), x -> x.element(8, 0),
            x -> x.copy(1, 0, 1, 1, 59), x -> x.weight(0), x -> x.toss(0), x -> x.bound(200, 0, 0)};
        long[] answers = {-202, 199, 399, -2, 0, 398, 0, 0, 0, 0, 0, 0, 0, 2, 1, 199, 0, 0, 0, 0, 0, STATE,
            ARGUMENT, 59, 113, 4, ARGUMENT};
        for (int n = 0; n < calls.length; n++) {
            TimedYard x = withMachines(1);
            x.way(0, 0, 0, 0, 1);
            x.test(0, 0, 1, -1, false);
            x.test(0, 0, 4, 1, false);
            x.test(0, 0, 6, 0, false);
            x.way(0, 0, 0, 4, 0);
            x.test(0, 1, 1, 0, false);
            x.test(0, 1, 2, 0, false);
            x.test(0, 1, 3, 0, false);
            x.walk();
            x.keep(0, 1, 0, 1);
            x.make(1, 4, 60);
            for (int left = MOST_CALLS - 13; left > 0; left--) {
                due("call " + n + ", with " + left + " left", x, calls[n], answers[n]);
            }
        }
    }

    private static void machinesStayFull() {
        TimedYard x = withMachines(1);
        int used = 2;
        for (; used < MOST_CALLS; used++) {
            switch (used % 4) {
                case 0: due("place(0)", x.place(0), used / 4 < 6 ? used / 4 : -2); break;
                case 1: due("limit", x.limit(0, 0, 1, 5, false), used / 4 < 3 ? used / 4 : -2); break;
                case 2: due("way", x.way(0, 0, 0, 0, 0), used / 4 < 12 ? used / 4 : -2); break;
                default: due("test", x.test(0, 0, 1, 0, false), used / 4 < 3 ? used / 4 + 1 : -2); break;
            }
        }
        TimedYard y = new TimedYard();
        for (int n = 0; n < MOST_CALLS; n++) {
            due("machine()", y.machine(), n < 3 ? n : -2);
        }
    }

    private static void handGrowsToTheLast() {
        TimedYard x = new TimedYard();
        for (int n = 0; n < 400; n++) {
            due("tighten", x.tighten(1, 0, 400 - n, n % 2 == 1), 0);
        }
        for (int n = 400; n < MOST_CALLS; n++) {
            due("handBound(1, 0)", x.handBound(1, 0), 2);
        }
    }

    private static void shelvesChangeToTheLast() {
        TimedYard x = new TimedYard();
        for (int n = 0; n < MOST_CALLS / 2; n++) {
            int size = n % 61;
            int shelf = n % 8;
            due("make", x.make(shelf, 3 + n % 2, size), 0);
            due("element", x, y -> y.element(shelf, size), STATE);
        }
    }

    /** A new WAY, and a walk after each of them, then the same walk to the end. */
    private static void walksChangeToTheLast() {
        TimedYard x = withMachines(6);
        for (int w = 0; w < 5; w++) {
            x.way(0, w, w + 1, 0, 0);
            due("walk()", x.walk(), w + 2);
            due("soonest", x.soonest(w + 1), 0);
        }
        for (int used = 22; used + 2 <= MOST_CALLS; used += 2) {
            due("walk()", x.walk(), 6);
            due("state(5, 6)", x.state(5, 6), 5);
        }
    }
}
