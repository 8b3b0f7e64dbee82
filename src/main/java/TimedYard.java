import java.util.Arrays;

/** Machines with clocks, gone through as zones of differences; README.md tells how it is used. */
public final class TimedYard {
    public static final int ANY = 1000000;

    private static final int NO_SUCH = -1;
    private static final int FULL = -2;
    private static final int NONE = -2;
    private static final int NOTHING_HELD = -11;
    private static final int OTHER_KIND = -12;
    private static final int OUTSIDE = -13;
    private static final int SIZE_BELOW_ZERO = -14;
    private static final int NO_FAILURE = -15;

    private static final int CLOCKS = 4;
    private static final int TOTAL = 4;
    private static final int AT_MOST_ZERO = 1;
    private static final int EMPTY_BOUND = -2000000;

    private static final int MOST_MACHINES = 3;
    private static final int MOST_PLACES = 6;
    private static final int MOST_WAYS = 12;
    private static final int MOST_LIMITS = 2;
    private static final int MOST_TESTS = 3;
    private static final int MOST_STATES = 200;
    private static final int MOST_WORD = 9;
    private static final int ALL_SETS = 7;
    private static final int MOST_TOLD = 100;
    private static final int MOST_BY_HAND = 400;
    private static final int MOST_LET_GO = 200;
    private static final int SHELVES = 8;
    private static final int LONGEST_ROW = 60;

    private final Yard yard;
    private final Zone handZone;
    private final int[] handGreatest;
    private final Held[] shelves;

    public TimedYard() {
        yard = new Yard();
        handZone = new Zone(false);
        handZone.becomeAllTimes();
        handGreatest = new int[CLOCKS];
        shelves = new Held[SHELVES];
    }

    public int machine() {
        if (yard.machineCount >= MOST_MACHINES) {
            return FULL;
        }
        yard.machines[yard.machineCount] = new Machine();
        yard.machineCount++;
        return yard.machineCount - 1;
    }

    public int place(int m) {
        Machine owner = yard.machineAt(m);
        if (owner == null) {
            return NO_SUCH;
        }
        if (owner.placeCount >= MOST_PLACES) {
            return FULL;
        }
        owner.places[owner.placeCount] = new Place();
        owner.placeCount++;
        return owner.placeCount - 1;
    }

    public int limit(int m, int place, int clock, int c, boolean below) {
        Place limited = yard.placeAt(m, place);
        if (limited == null || clock == 0 || !isClock(clock) || !isBetween(c, 0, MOST_TOLD)) {
            return NO_SUCH;
        }
        if (limited.limitCount >= MOST_LIMITS) {
            return FULL;
        }
        limited.clocks[limited.limitCount] = clock;
        limited.marks[limited.limitCount] = Zone.mark(c, below);
        limited.limitCount++;
        return limited.limitCount;
    }

    public int way(int m, int from, int to, int word, int sets) {
        Machine owner = yard.machineAt(m);
        if (owner == null || yard.placeAt(m, from) == null || yard.placeAt(m, to) == null) {
            return NO_SUCH;
        }
        if (!isBetween(word, -MOST_WORD, MOST_WORD) || !isBetween(sets, 0, ALL_SETS)) {
            return NO_SUCH;
        }
        if (owner.wayCount >= MOST_WAYS) {
            return FULL;
        }
        owner.ways[owner.wayCount] = new Way(from, to, word, sets);
        owner.wayCount++;
        return owner.wayCount - 1;
    }

    public int test(int m, int way, int pair, int c, boolean below) {
        Way tested = yard.wayAt(m, way);
        if (tested == null || !isPair(pair) || !isBetween(c, -MOST_TOLD, MOST_TOLD)) {
            return NO_SUCH;
        }
        if (tested.testCount >= MOST_TESTS) {
            return FULL;
        }
        tested.pairs[tested.testCount] = pair;
        tested.marks[tested.testCount] = Zone.mark(c, below);
        tested.testCount++;
        return tested.testCount;
    }

    public int walk() {
        if (!yard.canBeWalked()) {
            return NO_SUCH;
        }
        yard.begin();
        for (int k = 0; k < MOST_STATES; k++) {
            State looked = yard.stateAt(k);
            if (looked == null) {
                break;
            }
            if (!yard.lookAt(looked)) {
                return -2 - yard.stateCount;
            }
        }
        return yard.stateCount;
    }

    public int state(int k, int what) {
        State told = yard.stateAt(k);
        if (told == null) {
            return NO_SUCH;
        }
        switch (what) {
            case 0:
            case 1:
            case 2:
                return told.places[what];
            case 3:
                return told.parent;
            case 4:
                return told.children;
            case 5:
                return k < yard.lookedAt ? told.moveCount : NONE;
            case 6:
                return told.depth;
            default:
                return NO_SUCH;
        }
    }

    public int bound(int k, int i, int j) throws IllegalArgumentException {
        State told = yard.stateAt(k);
        if (told == null || !isClock(i) || !isClock(j)) {
            throw new IllegalArgumentException("no such state or clock");
        }
        return told.zone.at(i, j);
    }

    public int seen(int a, int b, int c) {
        int last = MOST_PLACES - 1;
        if (!isBetween(a, -1, last) || !isBetween(b, -1, last) || !isBetween(c, -1, last)) {
            return NO_SUCH;
        }
        for (int k = 0; k < yard.stateCount; k++) {
            State told = yard.stateAt(k);
            if (told != null && told.fits(0, a) && told.fits(1, b) && told.fits(2, c)) {
                return k;
            }
        }
        return NONE;
    }

    public int lead(int k, int i, int what) {
        State told = yard.stateAt(k);
        if (told == null || i < 0 || i >= told.depth || !isBetween(what, 0, 3)) {
            return NO_SUCH;
        }
        for (int back = told.depth - 1; back > i && told != null; back--) {
            told = yard.stateAt(told.parent);
        }
        return told == null ? NO_SUCH : told.move[what];
    }

    public int soonest(int k) {
        State told = yard.stateAt(k);
        return told == null ? NO_SUCH : told.soonestTime;
    }

    public int stuck(int k) {
        State told = yard.stateAt(k);
        if (told == null || k >= yard.lookedAt) {
            return NO_SUCH;
        }
        if (told.moveCount > 0) {
            return 0;
        }
        return told.limited ? 1 : 2;
    }

    public int hand(int what, int k) {
        switch (what) {
            case 0:
                handZone.becomeAllTimes();
                return 0;
            case 1:
                handZone.becomeAllZero();
                return 0;
            case 2:
                State told = yard.stateAt(k);
                if (told == null) {
                    return NO_SUCH;
                }
                handZone.becomeAs(told.zone);
                return 0;
            case 3:
                handZone.empty = true;
                return 0;
            default:
                return NO_SUCH;
        }
    }

    public int tighten(int i, int j, int c, boolean below) {
        if (!isClock(i) || !isClock(j) || i == j || !isBetween(c, -MOST_BY_HAND, MOST_BY_HAND)) {
            return NO_SUCH;
        }
        handZone.narrow(i, j, Zone.mark(c, below));
        handZone.close();
        return handEmpty();
    }

    public int pass() {
        handZone.elapse();
        handZone.close();
        return handEmpty();
    }

    public int set(int clocks) {
        if (!isBetween(clocks, 0, ALL_SETS)) {
            return NO_SUCH;
        }
        handZone.reset(clocks);
        handZone.close();
        return handEmpty();
    }

    public int letGo(int a, int b, int c) {
        if (!isBetween(a, 0, MOST_LET_GO) || !isBetween(b, 0, MOST_LET_GO)
                || !isBetween(c, 0, MOST_LET_GO)) {
            return NO_SUCH;
        }
        handGreatest[1] = a;
        handGreatest[2] = b;
        handGreatest[3] = c;
        handZone.loosen(handGreatest);
        handZone.close();
        return handEmpty();
    }

    public int meet(int k) {
        State told = yard.stateAt(k);
        if (told == null) {
            return NO_SUCH;
        }
        handZone.cutBy(told.zone);
        handZone.close();
        return handEmpty();
    }

    public int within(int k) {
        State told = yard.stateAt(k);
        if (told == null) {
            return NO_SUCH;
        }
        return (handZone.liesIn(told.zone) ? 1 : 0) + (told.zone.liesIn(handZone) ? 2 : 0);
    }

    public int handBound(int i, int j) throws IllegalArgumentException {
        if (!isClock(i) || !isClock(j)) {
            throw new IllegalArgumentException("no such clock");
        }
        return handZone.empty ? EMPTY_BOUND : handZone.at(i, j);
    }

    public int count(int what) {
        switch (what) {
            case 0:
                return yard.machineCount;
            case 1:
                return yard.stateCount;
            case 2:
                return yard.lookedAt;
            case 3:
                return yard.moveCount;
            case 4:
                return yard.coveredCount;
            case 5:
            case 6:
            case 7:
                return yard.letsGo ? yard.greatest[what - 4] : NONE;
            default:
                return NO_SUCH;
        }
    }

    public int keep(int d, int what, int m, int k) {
        if (!isShelf(d) || !isBetween(what, 0, 4)) {
            return NO_SUCH;
        }
        if (what == 0) {
            shelves[d] = null;
            return 0;
        }
        Held held = heldOf(what, m, k);
        if (held == null) {
            return NO_SUCH;
        }
        shelves[d] = held;
        return 0;
    }

    public int make(int d, int what, int n) {
        if (!isShelf(d) || !isBetween(what, 3, 4) || n > LONGEST_ROW) {
            return NO_SUCH;
        }
        if (n < 0) {
            return SIZE_BELOW_ZERO;
        }
        if (what == 3) {
            shelves[d] = new ShortRow(new short[n]);
        } else {
            shelves[d] = new LongRow(new long[n]);
        }
        return 0;
    }

    public long element(int d, int i) throws IllegalArgumentException, IllegalStateException {
        if (!isShelf(d)) {
            throw new IllegalArgumentException("no such shelf");
        }
        if (shelves[d] instanceof Row row) {
            if (i >= 0 && i < row.size()) {
                return row.valueAt(i);
            }
        }
        throw new IllegalStateException("no row with such a place");
    }

    public int copy(int d, int i, int e, int j, int n) {
        if (!isShelf(d) || !isShelf(e)) {
            return NO_SUCH;
        }
        if (shelves[d] == null || shelves[e] == null) {
            return NOTHING_HELD;
        }
        if (shelves[d] instanceof Row from) {
            if (shelves[e] instanceof Row to) {
                return copied(from, i, to, j, n);
            }
        }
        return OTHER_KIND;
    }

    public int weight(int d) {
        if (!isShelf(d)) {
            return NO_SUCH;
        }
        Held held = shelves[d];
        return held == null ? NOTHING_HELD : held.heft();
    }

    public int toss(int d) {
        if (!isShelf(d)) {
            return NO_SUCH;
        }
        if (shelves[d] == null) {
            return NOTHING_HELD;
        }
        if (shelves[d] instanceof Way tossed) {
            return caughtWord(tossed);
        }
        return OTHER_KIND;
    }

    private static boolean isBetween(int n, int least, int most) {
        return n >= least && n <= most;
    }

    private static boolean isClock(int i) {
        return i >= 0 && i < CLOCKS;
    }

    private static boolean isPair(int pair) {
        return pair >= 0 && pair < CLOCKS * CLOCKS && pair / CLOCKS != pair % CLOCKS;
    }

    private static boolean isShelf(int d) {
        return d >= 0 && d < SHELVES;
    }

    private int handEmpty() {
        return handZone.empty ? 1 : 0;
    }

    /** What a shelf would get, or null if there is no such thing. */
    private Held heldOf(int what, int m, int k) {
        switch (what) {
            case 1:
                Way way = yard.wayAt(m, k);
                return way == null ? null : way.asItIs();
            case 2:
                Place place = yard.placeAt(m, k);
                return place == null ? null : place.asItIs();
            case 3:
                return yard.walked ? rowOfPlaces() : null;
            default:
                State told = yard.stateAt(k);
                return told == null ? null : rowOfBounds(told.zone);
        }
    }

    private ShortRow rowOfPlaces() {
        int size = Math.min(yard.stateCount, LONGEST_ROW);
        short[] values = new short[Math.max(size, 0)];
        for (int k = 0; k < values.length; k++) {
            State told = yard.stateAt(k);
            values[k] = told == null ? 0 : (short) told.places[0];
        }
        return new ShortRow(values);
    }

    private static LongRow rowOfBounds(Zone zone) {
        long[] values = new long[CLOCKS * CLOCKS];
        for (int at = 0; at < values.length; at++) {
            values[at] = zone.at(at / CLOCKS, at % CLOCKS);
        }
        return new LongRow(values);
    }

    private static int copied(Row from, int i, Row to, int j, int n) {
        if (!from.isOfKind(to)) {
            return OTHER_KIND;
        }
        // Subtracting keeps the comparison from wrapping around for great numbers.
        if (n < 0 || i < 0 || j < 0 || i > from.size() - n || j > to.size() - n) {
            return OUTSIDE;
        }
        from.giveTo(i, to, j, n);
        return n;
    }

    private static int caughtWord(Way tossed) {
        try {
            throwFailure(tossed.word);
        } catch (IllegalStateException given) {
            return tossed.word;
        } catch (UnsupportedOperationException taken) {
            return -tossed.word;
        }
        return NO_FAILURE;
    }

    private static void throwFailure(int word) {
        if (word > 0) {
            throw new IllegalStateException("a word that is given");
        }
        if (word < 0) {
            throw new UnsupportedOperationException("a word that is taken");
        }
    }

    /**
     * Bounds on the differences of all clocks; closed between calls, unless it is empty. In a walk
     * none comes near ANY (200 moves, 100 at most by each); in the hand they may, by many calls.
     */
    static final class Zone {
        final int size;
        final int[] bounds;
        boolean empty;

        /** With the clock TOTAL it has one that is never set: it shows all time that has passed. */
        Zone(boolean withTotal) {
            size = withTotal ? TOTAL + 1 : CLOCKS;
            bounds = new int[withTotal ? (TOTAL + 1) * (TOTAL + 1) : CLOCKS * CLOCKS];
            Arrays.fill(bounds, AT_MOST_ZERO);
        }

        static int mark(int c, boolean below) {
            return below ? 2 * c : 2 * c + 1;
        }

        static int sum(int a, int b) {
            if (a == ANY || b == ANY) {
                return ANY;
            }
            // The last bit says "at most": one of two stays if both have it, none if only one has.
            return a + b - ((a | b) & 1);
        }

        int at(int i, int j) {
            return bounds[i * size + j];
        }

        void becomeAllZero() {
            Arrays.fill(bounds, AT_MOST_ZERO);
            empty = false;
        }

        void becomeAllTimes() {
            Arrays.fill(bounds, ANY);
            for (int i = 0; i < size; i++) {
                bounds[i] = AT_MOST_ZERO;
                bounds[i * size + i] = AT_MOST_ZERO;
            }
            empty = false;
        }

        void becomeAs(Zone other) {
            if (other.size != size) {
                return;
            }
            System.arraycopy(other.bounds, 0, bounds, 0, bounds.length);
            empty = other.empty;
        }

        /** The bound alone, where it is tighter: the zone must be closed then. */
        void narrow(int i, int j, int mark) {
            bounds[i * size + j] = Math.min(at(i, j), mark);
        }

        /** Each bound the tighter one of both: the zone must be closed then. */
        void cutBy(Zone other) {
            for (int i = 0; i < size; i++) {
                for (int j = 0; j < size && other.size == size; j++) {
                    narrow(i, j, other.at(i, j));
                }
            }
        }

        /**
         * TIGHTENED and closed at once, in a walk alone: what becomes tighter goes just once from i
         * to j. Near ANY a sum on the way may be too great to be kept while the whole one is not.
         */
        void squeeze(int i, int j, int mark) {
            if (empty || mark >= at(i, j)) {
                return;
            }
            if (sum(mark, at(j, i)) < AT_MOST_ZERO) {
                empty = true;
                return;
            }
            for (int p = 0; p < size; p++) {
                int toJ = sum(at(p, i), mark);
                for (int q = 0; q < size && toJ != ANY; q++) {
                    bounds[p * size + q] = Math.min(at(p, q), sum(toJ, at(j, q)));
                }
            }
        }

        /** PASSED. */
        void elapse() {
            for (int i = 1; i < size; i++) {
                bounds[i * size] = ANY;
            }
        }

        /** SET. */
        void reset(int sets) {
            for (int i = 1; i < CLOCKS; i++) {
                if (!isSet(sets, i)) {
                    continue;
                }
                for (int j = 0; j < size; j++) {
                    boolean both = isSet(sets, j);
                    bounds[i * size + j] = both ? AT_MOST_ZERO : at(0, j);
                    bounds[j * size + i] = both ? AT_MOST_ZERO : at(j, 0);
                }
            }
        }

        static boolean isSet(int sets, int clock) {
            return clock > 0 && clock < CLOCKS && (sets >> (clock - 1) & 1) == 1;
        }

        /** LET GO, of a zone without the clock TOTAL: true if the zone must be closed then. */
        boolean loosen(int[] greatest) {
            if (empty || greatest.length != size) {
                return false;
            }
            boolean changed = false;
            for (int i = 0; i < size; i++) {
                for (int j = 0; j < size; j++) {
                    int left = loosened(i, at(i, j), greatest[i], greatest[j]);
                    changed = changed || left != at(i, j);
                    bounds[i * size + j] = left;
                }
            }
            return changed;
        }

        private static int loosened(int i, int bound, int greatestOfI, int greatestOfJ) {
            int c = bound >> 1;
            if (i != 0 && c > greatestOfI) {
                return ANY;
            }
            return c < -greatestOfJ ? mark(-greatestOfJ, true) : bound;
        }

        /** CLOSED, step by step as the Terms tell it: near ANY another order may give another zone. */
        void close() {
            for (int k = 0; k < size && !empty; k++) {
                for (int i = 0; i < size; i++) {
                    for (int j = 0; j < size; j++) {
                        narrow(i, j, sum(at(i, k), at(k, j)));
                    }
                }
                empty = isBroken();
            }
        }

        /** A clock and itself tighter than at most 0: that stays so, whatever is still summed. */
        private boolean isBroken() {
            for (int i = 0; i < size; i++) {
                if (at(i, i) < AT_MOST_ZERO) {
                    return true;
                }
            }
            return false;
        }

        /** WITHIN; what is empty lies in all, and nothing else lies in what is empty. */
        boolean liesIn(Zone other) {
            if (empty || other.empty) {
                return empty;
            }
            if (other.size != size) {
                return false;
            }
            for (int at = 0; at < bounds.length; at++) {
                if (bounds[at] > other.bounds[at]) {
                    return false;
                }
            }
            return true;
        }
    }

    /** What can lie on a shelf. */
    abstract static class Held {
        abstract int heft();
    }

    static final class Place extends Held {
        final int[] clocks = new int[MOST_LIMITS];
        final int[] marks = new int[MOST_LIMITS];
        int limitCount;

        /** A copy, as limits may still come to this one. */
        Place asItIs() {
            Place same = new Place();
            System.arraycopy(clocks, 0, same.clocks, 0, MOST_LIMITS);
            System.arraycopy(marks, 0, same.marks, 0, MOST_LIMITS);
            same.limitCount = limitCount;
            return same;
        }

        int heft() {
            return 3 + limitCount;
        }
    }

    static final class Way extends Held {
        final int from;
        final int to;
        final int word;
        final int sets;
        final int[] pairs = new int[MOST_TESTS];
        final int[] marks = new int[MOST_TESTS];
        int testCount;

        Way(int from, int to, int word, int sets) {
            this.from = from;
            this.to = to;
            this.word = word;
            this.sets = sets;
        }

        /** A copy, as tests may still come to this one. */
        Way asItIs() {
            Way same = new Way(from, to, word, sets);
            System.arraycopy(pairs, 0, same.pairs, 0, MOST_TESTS);
            System.arraycopy(marks, 0, same.marks, 0, MOST_TESTS);
            same.testCount = testCount;
            return same;
        }

        int heft() {
            int plain = 10 + testCount;
            if (word == 0) {
                return plain;
            }
            return word > 0 ? plain + 100 : 2 * (plain + 100);
        }
    }

    abstract static class Row extends Held {
        abstract int size();

        abstract long valueAt(int i);

        abstract boolean isOfKind(Row other);

        abstract void giveTo(int i, Row to, int j, int n);

        int heft() {
            return OTHER_KIND;
        }
    }

    static final class ShortRow extends Row {
        final short[] values;

        ShortRow(short[] values) {
            this.values = values;
        }

        int size() {
            return values.length;
        }

        long valueAt(int i) {
            return i >= 0 && i < values.length ? values[i] : 0;
        }

        boolean isOfKind(Row other) {
            return other instanceof ShortRow;
        }

        void giveTo(int i, Row to, int j, int n) {
            if (to instanceof ShortRow taker) {
                System.arraycopy(values, i, taker.values, j, n);
            }
        }
    }

    static final class LongRow extends Row {
        final long[] values;

        LongRow(long[] values) {
            this.values = values;
        }

        int size() {
            return values.length;
        }

        long valueAt(int i) {
            return i >= 0 && i < values.length ? values[i] : 0;
        }

        boolean isOfKind(Row other) {
            return other instanceof LongRow;
        }

        void giveTo(int i, Row to, int j, int n) {
            if (to instanceof LongRow taker) {
                System.arraycopy(values, i, taker.values, j, n);
            }
        }
    }

    static final class Machine {
        final Place[] places = new Place[MOST_PLACES];
        final Way[] ways = new Way[MOST_WAYS];
        int placeCount;
        int wayCount;
    }

    /** Places of all machines with a zone, and how they came. */
    static final class State {
        final int number;
        final int[] places = new int[MOST_MACHINES];
        final int[] move = new int[4];
        final Zone zone = new Zone(false);
        /** As zone, but nothing is let go, and with the clock of all time. */
        final Zone exact = new Zone(true);
        int parent;
        int children;
        int moveCount;
        int coveredCount;
        int depth;
        int soonestTime;
        boolean limited;

        State(int number) {
            this.number = number;
        }

        boolean fits(int m, int place) {
            return place == -1 || m >= 0 && m < places.length && places[m] == place;
        }

        boolean standsAt(int[] others) {
            for (int m = 0; m < places.length; m++) {
                if (m >= others.length || places[m] != others[m]) {
                    return false;
                }
            }
            return true;
        }

        void comeFrom(State before) {
            parent = before == null ? NONE : before.number;
            depth = before == null ? 0 : before.depth + 1;
            children = 0;
            moveCount = 0;
            coveredCount = 0;
        }
    }

    /** The machines, and the states of the latest walk. */
    static final class Yard {
        final Machine[] machines = new Machine[MOST_MACHINES];
        int machineCount;
        /** Made when first needed, and used again by later walks. */
        final State[] states = new State[MOST_STATES];
        int stateCount;
        int lookedAt;
        int moveCount;
        int coveredCount;
        boolean walked;
        boolean letsGo = true;
        final int[] greatest = new int[CLOCKS];
        final int[] arrival = new int[MOST_MACHINES];
        final Zone next = new Zone(false);

        Machine machineAt(int m) {
            return m >= 0 && m < machineCount && m < MOST_MACHINES ? machines[m] : null;
        }

        Place placeAt(int m, int k) {
            Machine owner = machineAt(m);
            if (owner == null || k < 0 || k >= owner.placeCount || k >= MOST_PLACES) {
                return null;
            }
            return owner.places[k];
        }

        Way wayAt(int m, int k) {
            Machine owner = machineAt(m);
            if (owner == null || k < 0 || k >= owner.wayCount || k >= MOST_WAYS) {
                return null;
            }
            return owner.ways[k];
        }

        State stateAt(int k) {
            return k >= 0 && k < stateCount && k < MOST_STATES ? states[k] : null;
        }

        boolean canBeWalked() {
            for (int m = 0; m < machineCount; m++) {
                if (placeAt(m, 0) == null) {
                    return false;
                }
            }
            return machineCount > 0;
        }

        /** Forgets the walk before, and finds THE FIRST. */
        void begin() {
            stateCount = 0;
            lookedAt = 0;
            moveCount = 0;
            coveredCount = 0;
            walked = true;
            findGreatest();
            for (int m = 0; m < MOST_MACHINES; m++) {
                arrival[m] = m < machineCount ? 0 : NONE;
            }
            next.becomeAllZero();
            confine(next);
            stay(next);
            if (next.empty) {
                return;
            }
            State first = newState(null);
            first.exact.becomeAllZero();
            stay(first.exact);
            first.soonestTime = 0;
            letGreatGo();
            first.zone.becomeAs(next);
        }

        private void findGreatest() {
            Arrays.fill(greatest, 0);
            letsGo = true;
            for (int m = 0; m < machineCount; m++) {
                for (int k = 0; k < MOST_PLACES; k++) {
                    heedLimits(placeAt(m, k));
                }
                for (int k = 0; k < MOST_WAYS; k++) {
                    heedTests(wayAt(m, k));
                }
            }
        }

        private void heedLimits(Place place) {
            if (place == null) {
                return;
            }
            for (int t = 0; t < place.limitCount && t < MOST_LIMITS; t++) {
                heed(place.clocks[t], place.marks[t]);
            }
        }

        private void heedTests(Way way) {
            if (way == null) {
                return;
            }
            for (int t = 0; t < way.testCount && t < MOST_TESTS; t++) {
                int i = way.pairs[t] / CLOCKS;
                int j = way.pairs[t] % CLOCKS;
                if (i != 0 && j != 0) {
                    letsGo = false;
                } else {
                    heed(i + j, way.marks[t]);
                }
            }
        }

        private void heed(int clock, int mark) {
            if (clock > 0 && clock < CLOCKS) {
                greatest[clock] = Math.max(greatest[clock], Math.abs(mark >> 1));
            }
        }

        /** LOOKED AT: false if the walk ends SPENT on the way. */
        boolean lookAt(State from) {
            for (int m = 0; m < machineCount; m++) {
                for (int w = 0; w < MOST_WAYS; w++) {
                    Way goes = wayFrom(from, m, w);
                    if (goes == null || goes.word < 0) {
                        continue;
                    }
                    boolean spent = goes.word == 0
                            ? !tryMove(from, m, w, NONE, NONE)
                            : !tryTakers(from, m, w, goes.word);
                    if (spent) {
                        return false;
                    }
                }
            }
            lookedAt++;
            moveCount += from.moveCount;
            coveredCount += from.coveredCount;
            return true;
        }

        private boolean tryTakers(State from, int giver, int w, int word) {
            for (int n = 0; n < machineCount; n++) {
                for (int v = 0; v < MOST_WAYS && n != giver; v++) {
                    Way takes = wayFrom(from, n, v);
                    if (takes != null && takes.word == -word && !tryMove(from, giver, w, n, v)) {
                        return false;
                    }
                }
            }
            return true;
        }

        /** The way, if it leads on from where its machine stands; else null. */
        private Way wayFrom(State state, int m, int k) {
            Way way = wayAt(m, k);
            return way != null && way.from == state.places[m] ? way : null;
        }

        /** False if what comes would be one state too many. */
        private boolean tryMove(State from, int m, int w, int n, int v) {
            Way goes = wayAt(m, w);
            Way takes = wayAt(n, v);
            if (goes == null) {
                return true;
            }
            System.arraycopy(from.places, 0, arrival, 0, MOST_MACHINES);
            arrival[m] = goes.to;
            if (takes != null) {
                arrival[n] = takes.to;
            }
            next.becomeAs(from.zone);
            follow(next, goes, takes);
            stay(next);
            if (next.empty) {
                return true;
            }
            from.moveCount++;
            letGreatGo();
            if (isCovered()) {
                from.coveredCount++;
                return true;
            }
            if (stateCount >= MOST_STATES) {
                return false;
            }
            State comes = newState(from);
            comes.zone.becomeAs(next);
            comes.exact.becomeAs(from.exact);
            follow(comes.exact, goes, takes);
            comes.soonestTime = leastTotal(comes.exact);
            stay(comes.exact);
            comes.move[0] = m;
            comes.move[1] = w;
            comes.move[2] = n;
            comes.move[3] = v;
            return true;
        }

        /** The moment of a move: tests, sets, and the limits where it leads. */
        private void follow(Zone zone, Way goes, Way takes) {
            obey(zone, goes);
            int sets = goes.sets;
            if (takes != null) {
                obey(zone, takes);
                sets = sets | takes.sets;
            }
            zone.reset(sets);
            confine(zone);
        }

        private static void obey(Zone zone, Way way) {
            for (int t = 0; t < way.testCount && t < MOST_TESTS; t++) {
                zone.squeeze(way.pairs[t] / CLOCKS, way.pairs[t] % CLOCKS, way.marks[t]);
            }
        }

        /** Time goes on where the machines have come to. */
        private void stay(Zone zone) {
            zone.elapse();
            confine(zone);
        }

        private void confine(Zone zone) {
            for (int m = 0; m < machineCount; m++) {
                Place place = placeAt(m, arrival[m]);
                for (int t = 0; place != null && t < place.limitCount && t < MOST_LIMITS; t++) {
                    zone.squeeze(place.clocks[t], 0, place.marks[t]);
                }
            }
        }

        private void letGreatGo() {
            if (letsGo && next.loosen(greatest)) {
                next.close();
            }
        }

        private boolean isCovered() {
            for (int k = 0; k < stateCount; k++) {
                State other = stateAt(k);
                if (other != null && other.standsAt(arrival) && next.liesIn(other.zone)) {
                    return true;
                }
            }
            return false;
        }

        /** The next state, at the places of arrival. */
        private State newState(State before) {
            int number = Math.min(stateCount, MOST_STATES - 1);
            if (states[number] == null) {
                states[number] = new State(number);
            }
            State comes = states[number];
            comes.comeFrom(before);
            System.arraycopy(arrival, 0, comes.places, 0, MOST_MACHINES);
            comes.limited = isLimited();
            stateCount = number + 1;
            if (before != null) {
                before.children++;
            }
            return comes;
        }

        private boolean isLimited() {
            for (int m = 0; m < machineCount; m++) {
                Place place = placeAt(m, arrival[m]);
                if (place != null && place.limitCount > 0) {
                    return true;
                }
            }
            return false;
        }

        private static int leastTotal(Zone exact) {
            int mark = exact.at(0, TOTAL);
            int t = -(mark >> 1);
            return (mark & 1) == 1 ? 2 * t : 2 * t + 1;
        }
    }
}
