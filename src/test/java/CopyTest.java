/**
 * Promise 26 at its edges: places and sizes beside either's end, and those whose sum wraps around;
 * and that all elements come as they were before, where a ROW is copied into itself.
 */
public final class CopyTest extends YardCheck {
    private static final int[] NUMBERS = {LEAST, LEAST + 1, LEAST + 2, LEAST + 60, -61, -60, -2, -1,
        0, 1, 2, 3, 4, 58, 59, 60, 61, 1 << 30, (1 << 30) + 1, MOST - 60, MOST - 59, MOST - 2,
        MOST - 1, MOST};

    public static void main(String[] args) {
        says("-13: n, i or j is below 0, or beyond either's end");
        for (int what = 3; what < 5; what++) {
            for (int from : new int[] {0, 1, 3, 60}) {
                for (int to : new int[] {0, 1, 3, 60}) {
                    grid(what, from, to);
                }
            }
            sameShelf(what, 60);
        }
        says("-13: beyond either's end, told one by one");
        besideTheEnds();
        says("n elements .. come to the ROW on SHELF e (as they all were before)");
        dueRow("six shorts", row(withSix(3), 0, 6), new long[] {0, 1, 2, 3, 4, 5});
        dueRow("six longs", row(withSix(4), 0, 6), new long[] {1, 3, 5, 7, 9, 11});
        intoItself(3);
        intoItself(4);
        betweenRows();
        says("each SHELF has a ROW of its own");
        keptRowsAreApart();
        says("make: SHELF d gets a ROW of n shorts, or longs, 0");
        madeAnew();
        end("all copies are as due");
    }

    private static boolean fits(int place, int n, int size) {
        return place >= 0 && n >= 0 && (long) place + n <= size;
    }

    private static void grid(int what, int from, int to) {
        for (int i : NUMBERS) {
            for (int j : NUMBERS) {
                TimedYard x = new TimedYard();
                x.make(0, what, from);
                x.make(7, what, to);
                for (int n : NUMBERS) {
                    long want = fits(i, n, from) && fits(j, n, to) ? n : -13;
                    due("copy(0, " + i + ", 7, " + j + ", " + n + ") of " + from + " to " + to, x,
                        y -> y.copy(0, i, 7, j, n), want);
                }
            }
        }
    }

    private static void sameShelf(int what, int size) {
        for (int i : NUMBERS) {
            TimedYard x = new TimedYard();
            x.make(5, what, size);
            for (int n : NUMBERS) {
                for (int j : new int[] {LEAST, -1, 0, 1, 59, 60, 61, MOST}) {
                    long want = fits(i, n, size) && fits(j, n, size) ? n : -13;
                    due("copy(5, " + i + ", 5, " + j + ", " + n + ")", x,
                        y -> y.copy(5, i, 5, j, n), want);
                }
            }
        }
    }

    /** From 4 elements to 6, and the other way round. */
    private static void besideTheEnds() {
        int[][] told = {{0, 0, 4, 4}, {0, 0, 5, -13}, {0, 2, 4, 4}, {0, 3, 4, -13}, {1, 0, 3, 3},
            {1, 0, 4, -13}, {3, 5, 1, 1}, {4, 5, 1, -13}, {3, 6, 1, -13}, {4, 6, 0, 0},
            {5, 6, 0, -13}, {4, 7, 0, -13}, {0, 0, 0, 0}, {-1, 0, 0, -13}, {0, -1, 0, -13},
            {0, 0, -1, -13}, {-1, 0, 1, -13}, {0, -1, 1, -13}, {1, 1, -1, -13}, {4, 6, -1, -13},
            // Each sum of a place and a size is 0 or below 0, or small, when it wraps around.
            {1, 0, MOST, -13}, {0, 1, MOST, -13}, {MOST, 0, 1, -13}, {0, MOST, 1, -13},
            {MOST, MOST, 2, -13}, {MOST, MOST, MOST, -13}, {LEAST, 0, LEAST, -13},
            {0, LEAST, LEAST, -13}, {LEAST, LEAST, LEAST, -13}, {LEAST, LEAST, MOST, -13},
            {1 << 30, 0, 1 << 30, -13}, {0, 1 << 30, 1 << 30, -13}, {4, 6, LEAST, -13}};
        for (int[] t : told) {
            TimedYard x = new TimedYard();
            x.make(0, 4, 4);
            x.make(1, 4, 6);
            due("copy(0, " + t[0] + ", 1, " + t[1] + ", " + t[2] + ")",
                x, y -> y.copy(0, t[0], 1, t[1], t[2]), t[3]);
            due("copy(1, " + t[1] + ", 0, " + t[0] + ", " + t[2] + ")",
                x, y -> y.copy(1, t[1], 0, t[0], t[2]), t[3]);
        }
    }

    /** On SHELF 0 six elements that all differ, of the kind that is told. */
    private static TimedYard withSix(int what) {
        if (what == 3) {
            TimedYard x = withMachines(6);
            for (int p = 0; p < 5; p++) {
                x.way(0, p, p + 1, 0, 0);
            }
            x.walk();
            x.keep(0, 3, 0, 0);
            return x;
        }
        TimedYard x = walked(ladder(4));
        x.make(0, 4, 6);
        for (int k = 0; k < 6; k++) {
            x.keep(1, 4, 0, k);
            // CLOCK 2 leads CLOCK 1 by k.
            x.copy(1, 4 * 2 + 1, 0, k, 1);
        }
        return x;
    }

    private static long[] row(TimedYard x, int d, int size) {
        long[] row = new long[size];
        for (int i = 0; i < size; i++) {
            row[i] = x.element(d, i);
        }
        due("the end of SHELF " + d, x, y -> y.element(d, size), STATE);
        return row;
    }

    private static void dueRow(String call, long[] got, long[] want) {
        for (int i = 0; i < want.length; i++) {
            due(call + ", then element " + i, got[i], want[i]);
        }
    }

    private static void intoItself(int what) {
        for (int i = 0; i < 7; i++) {
            for (int j = 0; j < 7; j++) {
                for (int n = 0; n <= 6; n++) {
                    TimedYard x = withSix(what);
                    long[] want = row(x, 0, 6);
                    boolean fits = fits(i, n, 6) && fits(j, n, 6);
                    if (fits) {
                        System.arraycopy(want.clone(), i, want, j, n);
                    }
                    String call = "copy(0, " + i + ", 0, " + j + ", " + n + ")";
                    due(call, x.copy(0, i, 0, j, n), fits ? n : -13);
                    dueRow(call, row(x, 0, 6), want);
                }
            }
        }
    }

    private static void betweenRows() {
        for (int what = 3; what < 5; what++) {
            for (int n = 0; n < 5; n++) {
                TimedYard x = withSix(what);
                x.make(7, what, 5);
                long[] from = row(x, 0, 6);
                long[] want = new long[5];
                System.arraycopy(from, 6 - n, want, 5 - n, n);
                String call = "copy(0, " + (6 - n) + ", 7, " + (5 - n) + ", " + n + ")";
                due(call, x.copy(0, 6 - n, 7, 5 - n, n), n);
                dueRow(call, row(x, 7, 5), want);
                dueRow(call, row(x, 0, 6), from);
            }
        }
    }

    private static void keptRowsAreApart() {
        TimedYard x = withSix(3);
        x.keep(1, 3, 0, 0);
        x.keep(2, 4, 0, 0);
        x.keep(3, 4, 0, 0);
        x.make(4, 4, 16);
        due("copy(0, 5, 1, 0, 1)", x.copy(0, 5, 1, 0, 1), 1);
        due("element(1, 0)", x.element(1, 0), 5);
        due("element(0, 0)", x.element(0, 0), 0);
        due("copy(4, 0, 2, 0, 16)", x.copy(4, 0, 2, 0, 16), 16);
        due("element(2, 0)", x.element(2, 0), 0);
        due("element(3, 0)", x.element(3, 0), 1);
        due("bound(0, 0, 0)", x.bound(0, 0, 0), 1);
        due("state(0, 0)", x.state(0, 0), 0);
    }

    private static void madeAnew() {
        for (int what = 3; what < 5; what++) {
            for (int size : new int[] {5, 6, 7}) {
                TimedYard x = withSix(what);
                due("make(0, " + what + ", " + size + ")", x.make(0, what, size), 0);
                dueRow("made anew", row(x, 0, size), new long[size]);
            }
        }
    }
}
