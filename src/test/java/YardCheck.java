/** What the tests share: answers that are due, and yards to call. */
abstract class YardCheck {
    static final int LEAST = Integer.MIN_VALUE;
    static final int MOST = Integer.MAX_VALUE;
    /** ANY, by its number. */
    static final int A = 1000000;
    /** Stand for a call that throws: no call answers such numbers. */
    static final long ARGUMENT = Long.MIN_VALUE;
    static final long STATE = Long.MIN_VALUE + 1;
    static final long OTHER = Long.MIN_VALUE + 2;

    private static int wrong = 0;
    private static String sentence = "";

    interface Call {
        long on(TimedYard x);
    }

    interface Maker {
        TimedYard make();
    }

    /** The words of the document that the following calls hold it to. */
    static void says(String words) {
        sentence = words;
    }

    static void due(String call, long got, long want) {
        if (got != want) {
            wrong++;
            System.out.println("'" + sentence + "': " + call + " answered " + written(got)
                + ", due is " + written(want));
        }
    }

    private static String written(long answer) {
        if (answer == ARGUMENT) {
            return "throws.IllegalArgumentException";
        }
        if (answer == STATE) {
            return "throws.IllegalStateException";
        }
        return answer == OTHER ? "another exception" : String.valueOf(answer);
    }

    /** Just the two classes that the document names: one below them is another one. */
    static long answer(TimedYard x, Call call) {
        try {
            return call.on(x);
        } catch (RuntimeException e) {
            return e.getClass() == IllegalArgumentException.class ? ARGUMENT
                : e.getClass() == IllegalStateException.class ? STATE : OTHER;
        }
    }

    static void due(String name, TimedYard x, Call call, long want) {
        due(name, answer(x, call), want);
    }

    static void dueHand(TimedYard x, String when, int... bounds) {
        for (int at = 0; at < 16; at++) {
            due(when + " handBound(" + at / 4 + ", " + at % 4 + ")",
                x.handBound(at / 4, at % 4), bounds[at]);
        }
    }

    static void dueEmpty(TimedYard x, String when) {
        for (int at = 0; at < 16; at++) {
            due(when + " handBound(" + at / 4 + ", " + at % 4 + ")",
                x.handBound(at / 4, at % 4), -2000000);
        }
    }

    static void dueBounds(TimedYard x, int k, int... bounds) {
        for (int at = 0; at < 16; at++) {
            due("bound(" + k + ", " + at / 4 + ", " + at % 4 + ")",
                x.bound(k, at / 4, at % 4), bounds[at]);
        }
    }

    static void end(String allIsWell) {
        System.out.println(wrong == 0 ? allIsWell : wrong + " answers are not as due");
        if (wrong != 0) {
            System.exit(1);
        }
    }

    /** As many machines as numbers are told, each with so many places. */
    static TimedYard withMachines(int... places) {
        TimedYard x = new TimedYard();
        for (int m = 0; m < places.length; m++) {
            x.machine();
            for (int p = 0; p < places[m]; p++) {
                x.place(m);
            }
        }
        return x;
    }

    /** At a place clock 2 can come to lead clock 1 by one more, each time, up to a + 1 in all. */
    private static void rungs(TimedYard x, int place, int a) {
        int w = x.way(0, place, place, 0, 1);
        x.test(0, w, 1, -1, false);
        x.test(0, w, 4, 1, false);
        x.test(0, w, 9, a, false);
    }

    /** Not walked yet: a walk finds a + 2 states. */
    static TimedYard ladder(int a) {
        TimedYard x = withMachines(1);
        rungs(x, 0, a);
        return x;
    }

    /** Not walked yet: a walk finds a + 2 states at place 0 and b + 2 at place 1. */
    static TimedYard twoLadders(int a, int b) {
        TimedYard x = withMachines(2);
        rungs(x, 0, a);
        rungs(x, 1, b);
        x.way(0, 0, 1, 0, 7);
        return x;
    }

    /** Not walked yet: clock 2 leads clock 1 by ever more, so a walk ends SPENT. */
    static TimedYard endless() {
        TimedYard x = withMachines(1);
        int w = x.way(0, 0, 0, 0, 1);
        x.test(0, w, 1, -1, false);
        x.test(0, w, 4, 1, false);
        x.test(0, w, 6, 0, false);
        return x;
    }

    static TimedYard walked(TimedYard x) {
        x.walk();
        return x;
    }
}
