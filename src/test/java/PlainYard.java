import java.util.ArrayList;
import java.util.Arrays;
import java.util.List;

/**
 * The document once more, word by word and without any thrift: zones are tables of bounds that are
 * closed anew by the loop of the Terms, a walk keeps a whole copy of its machines, the soonest time
 * is found from the moments of the moves, not from zones. RandomRunsTest holds it against the class.
 */
final class PlainYard {
    record Bound(boolean any, int c, boolean below) {
        static final Bound NOTHING = new Bound(true, 0, false);
        static final Bound ZERO = new Bound(false, 0, false);

        int written() {
            return any ? 1000000 : below ? 2 * c : 2 * c + 1;
        }

        /** By the numbers: a sum that is written greater than ANY is not tighter than ANY. */
        boolean tighterThan(Bound other) {
            return written() < other.written();
        }

        Bound plus(Bound other) {
            return any || other.any ? NOTHING : new Bound(false, c + other.c, below || other.below);
        }
    }

    record Limit(int clock, Bound bound) { }

    record Test(int i, int j, Bound bound) { }

    record Way(int from, int to, int word, int sets, List<Test> tests) { }

    record Machine(List<List<Limit>> places, List<Way> ways) {
        Machine copy() {
            Machine same = new Machine(new ArrayList<>(), new ArrayList<>());
            for (List<Limit> place : places) {
                same.places.add(new ArrayList<>(place));
            }
            for (Way w : ways) {
                same.ways.add(new Way(w.from, w.to, w.word, w.sets, new ArrayList<>(w.tests)));
            }
            return same;
        }
    }

    static final class State {
        int[] places;
        Bound[][] zone;
        int parent = -2;
        int[] move;
        boolean looked;
        int moves;
        int covered;
    }

    private final List<Machine> machines = new ArrayList<>();
    private List<Machine> then = null;
    private List<State> states = new ArrayList<>();
    private int[] greatest = {0, 0, 0, 0};
    private boolean letsGo = true;
    private Bound[][] hand = allTimes();
    private final Object[] shelves = new Object[8];

    // Zones: null is an EMPTY one.

    static Bound[][] allTimes() {
        Bound[][] z = new Bound[4][4];
        for (int i = 0; i < 4; i++) {
            for (int j = 0; j < 4; j++) {
                z[i][j] = i == 0 || i == j ? Bound.ZERO : Bound.NOTHING;
            }
        }
        return z;
    }

    static Bound[][] allZero() {
        Bound[][] z = new Bound[4][4];
        for (Bound[] row : z) {
            Arrays.fill(row, Bound.ZERO);
        }
        return z;
    }

    static Bound[][] same(Bound[][] z) {
        Bound[][] copy = new Bound[4][];
        for (int i = 0; i < 4; i++) {
            copy[i] = z[i].clone();
        }
        return copy;
    }

    static Bound[][] closed(Bound[][] z) {
        for (int k = 0; k < 4; k++) {
            for (int i = 0; i < 4; i++) {
                for (int j = 0; j < 4; j++) {
                    Bound sum = z[i][k].plus(z[k][j]);
                    if (sum.tighterThan(z[i][j])) {
                        z[i][j] = sum;
                    }
                }
            }
        }
        for (int i = 0; i < 4; i++) {
            if (z[i][i].tighterThan(Bound.ZERO)) {
                return null;
            }
        }
        return z;
    }

    static Bound[][] tightened(Bound[][] z, int i, int j, Bound b) {
        if (z == null) {
            return null;
        }
        Bound[][] r = same(z);
        if (b.tighterThan(r[i][j])) {
            r[i][j] = b;
        }
        return closed(r);
    }

    static Bound[][] passed(Bound[][] z) {
        if (z == null) {
            return null;
        }
        Bound[][] r = same(z);
        for (int i = 1; i < 4; i++) {
            r[i][0] = Bound.NOTHING;
        }
        return closed(r);
    }

    static Bound[][] withSet(Bound[][] z, int sets) {
        if (z == null) {
            return null;
        }
        Bound[][] r = same(z);
        for (int i = 0; i < 4; i++) {
            for (int j = 0; j < 4; j++) {
                // A clock that is set is as clock 0 is.
                int a = i > 0 && (sets >> i - 1 & 1) == 1 ? 0 : i;
                int b = j > 0 && (sets >> j - 1 & 1) == 1 ? 0 : j;
                r[i][j] = z[a][b];
            }
        }
        return closed(r);
    }

    static Bound[][] gone(Bound[][] z, int[] m) {
        if (z == null) {
            return null;
        }
        Bound[][] r = same(z);
        for (int i = 0; i < 4; i++) {
            for (int j = 0; j < 4; j++) {
                Bound b = z[i][j];
                if (i != 0 && (b.any || b.c > m[i])) {
                    r[i][j] = Bound.NOTHING;
                } else if (b.c < -m[j]) {
                    r[i][j] = new Bound(false, -m[j], true);
                }
            }
        }
        for (int j = 0; j < 4; j++) {
            if (Bound.ZERO.tighterThan(r[0][j])) {
                r[0][j] = Bound.ZERO;
            }
        }
        return closed(r);
    }

    static boolean liesIn(Bound[][] a, Bound[][] b) {
        for (int i = 0; i < 4; i++) {
            for (int j = 0; j < 4; j++) {
                if (b[i][j].tighterThan(a[i][j])) {
                    return false;
                }
            }
        }
        return true;
    }

    // The machines.

    int machine() {
        if (machines.size() == 3) {
            return -2;
        }
        machines.add(new Machine(new ArrayList<>(), new ArrayList<>()));
        return machines.size() - 1;
    }

    private boolean isMachine(int m) {
        return m >= 0 && m < machines.size();
    }

    private boolean isPlace(int m, int p) {
        return isMachine(m) && p >= 0 && p < machines.get(m).places.size();
    }

    private boolean isWay(int m, int w) {
        return isMachine(m) && w >= 0 && w < machines.get(m).ways.size();
    }

    int place(int m) {
        if (!isMachine(m)) {
            return -1;
        }
        List<List<Limit>> places = machines.get(m).places;
        if (places.size() == 6) {
            return -2;
        }
        places.add(new ArrayList<>());
        return places.size() - 1;
    }

    int limit(int m, int place, int clock, int c, boolean below) {
        if (!isPlace(m, place) || clock < 1 || clock > 3 || c < 0 || c > 100) {
            return -1;
        }
        List<Limit> limits = machines.get(m).places.get(place);
        if (limits.size() == 2) {
            return -2;
        }
        limits.add(new Limit(clock, new Bound(false, c, below)));
        return limits.size();
    }

    int way(int m, int from, int to, int word, int sets) {
        if (!isPlace(m, from) || !isPlace(m, to) || word < -9 || word > 9 || sets < 0 || sets > 7) {
            return -1;
        }
        List<Way> ways = machines.get(m).ways;
        if (ways.size() == 12) {
            return -2;
        }
        ways.add(new Way(from, to, word, sets, new ArrayList<>()));
        return ways.size() - 1;
    }

    int test(int m, int way, int pair, int c, boolean below) {
        if (!isWay(m, way) || pair < 0 || pair > 15 || pair % 5 == 0 || c < -100 || c > 100) {
            return -1;
        }
        List<Test> tests = machines.get(m).ways.get(way).tests;
        if (tests.size() == 3) {
            return -2;
        }
        tests.add(new Test(pair / 4, pair % 4, new Bound(false, c, below)));
        return tests.size();
    }

    // The walk.

    int walk() {
        if (machines.isEmpty()) {
            return -1;
        }
        for (Machine m : machines) {
            if (m.places.isEmpty()) {
                return -1;
            }
        }
        then = new ArrayList<>();
        for (Machine m : machines) {
            then.add(m.copy());
        }
        states = new ArrayList<>();
        findGreatest();
        int[] places = {0, then.size() > 1 ? 0 : -2, then.size() > 2 ? 0 : -2};
        Bound[][] z = rested(limited(allZero(), places), places);
        if (z == null) {
            return 0;
        }
        State first = new State();
        first.places = places;
        first.zone = z;
        states.add(first);
        for (int k = 0; k < states.size(); k++) {
            if (!look(k)) {
                return -2 - states.size();
            }
        }
        return states.size();
    }

    private void findGreatest() {
        greatest = new int[4];
        letsGo = true;
        for (Machine m : then) {
            for (List<Limit> place : m.places) {
                for (Limit l : place) {
                    greatest[l.clock] = Math.max(greatest[l.clock], l.bound.c);
                }
            }
            for (Way w : m.ways) {
                for (Test t : w.tests) {
                    if (t.i > 0 && t.j > 0) {
                        letsGo = false;
                    } else {
                        int clock = t.i > 0 ? t.i : t.j;
                        greatest[clock] = Math.max(greatest[clock], Math.abs(t.bound.c));
                    }
                }
            }
        }
    }

    private Bound[][] limited(Bound[][] zone, int[] places) {
        Bound[][] z = zone;
        for (int m = 0; m < then.size(); m++) {
            for (Limit l : then.get(m).places.get(places[m])) {
                z = tightened(z, l.clock, 0, l.bound);
            }
        }
        return z;
    }

    private Bound[][] rested(Bound[][] zone, int[] places) {
        Bound[][] z = limited(passed(zone), places);
        return letsGo ? gone(z, greatest) : z;
    }

    private List<int[]> movesFrom(int[] places) {
        List<int[]> moves = new ArrayList<>();
        for (int m = 0; m < then.size(); m++) {
            for (int w = 0; w < then.get(m).ways.size(); w++) {
                Way goes = then.get(m).ways.get(w);
                if (goes.from == places[m] && goes.word == 0) {
                    moves.add(new int[] {m, w, -2, -2});
                }
                if (goes.from == places[m] && goes.word > 0) {
                    addTakers(moves, places, m, w, goes.word);
                }
            }
        }
        return moves;
    }

    private void addTakers(List<int[]> moves, int[] places, int m, int w, int word) {
        for (int n = 0; n < then.size(); n++) {
            for (int v = 0; v < then.get(n).ways.size(); v++) {
                Way takes = then.get(n).ways.get(v);
                if (n != m && takes.from == places[n] && takes.word == -word) {
                    moves.add(new int[] {m, w, n, v});
                }
            }
        }
    }

    private List<Way> waysOf(int[] move) {
        List<Way> ways = new ArrayList<>();
        ways.add(then.get(move[0]).ways.get(move[1]));
        if (move[2] >= 0) {
            ways.add(then.get(move[2]).ways.get(move[3]));
        }
        return ways;
    }

    private static int setsOf(List<Way> ways) {
        int sets = 0;
        for (Way w : ways) {
            sets |= w.sets;
        }
        return sets;
    }

    private boolean look(int k) {
        State from = states.get(k);
        for (int[] move : movesFrom(from.places)) {
            List<Way> ways = waysOf(move);
            int[] places = from.places.clone();
            places[move[0]] = ways.get(0).to;
            if (move[2] >= 0) {
                places[move[2]] = ways.get(1).to;
            }
            Bound[][] z = from.zone;
            for (Way w : ways) {
                for (Test t : w.tests) {
                    z = tightened(z, t.i, t.j, t.bound);
                }
            }
            z = rested(limited(withSet(z, setsOf(ways)), places), places);
            if (z == null) {
                continue;
            }
            from.moves++;
            boolean covered = false;
            for (State s : states) {
                covered |= Arrays.equals(s.places, places) && liesIn(z, s.zone);
            }
            if (covered) {
                from.covered++;
                continue;
            }
            if (states.size() == 200) {
                return false;
            }
            State comes = new State();
            comes.places = places;
            comes.zone = z;
            comes.parent = k;
            comes.move = move;
            states.add(comes);
        }
        from.looked = true;
        return true;
    }

    private State get(int k) {
        return k >= 0 && k < states.size() ? states.get(k) : null;
    }

    private List<State> chain(State to) {
        List<State> chain = new ArrayList<>();
        State s = to;
        while (s.parent != -2) {
            chain.add(0, s);
            s = states.get(s.parent);
        }
        return chain;
    }

    int state(int k, int what) {
        State s = get(k);
        if (s == null || what < 0 || what > 6) {
            return -1;
        }
        if (what < 3) {
            return s.places[what];
        }
        if (what == 3) {
            return s.parent;
        }
        if (what == 4) {
            int n = 0;
            for (State other : states) {
                n += other.parent == k ? 1 : 0;
            }
            return n;
        }
        return what == 5 ? s.looked ? s.moves : -2 : chain(s).size();
    }

    int bound(int k, int i, int j) {
        State s = get(k);
        if (s == null || i < 0 || i > 3 || j < 0 || j > 3) {
            throw new IllegalArgumentException();
        }
        return s.zone[i][j].written();
    }

    int seen(int a, int b, int c) {
        int[] wanted = {a, b, c};
        for (int p : wanted) {
            if (p < -1 || p > 5) {
                return -1;
            }
        }
        for (int k = 0; k < states.size(); k++) {
            boolean fits = true;
            for (int m = 0; m < 3; m++) {
                fits &= wanted[m] == -1 || states.get(k).places[m] == wanted[m];
            }
            if (fits) {
                return k;
            }
        }
        return -2;
    }

    int lead(int k, int i, int what) {
        State s = get(k);
        if (s == null || what < 0 || what > 3) {
            return -1;
        }
        List<State> chain = chain(s);
        return i < 0 || i >= chain.size() ? -1 : chain.get(i).move[what];
    }

    /** Edges a, b with a bound: the moment of a less the moment of b is so bounded. */
    private record Edge(int a, int b, Bound bound) { }

    int soonest(int k) {
        State s = get(k);
        if (s == null) {
            return -1;
        }
        List<Edge> edges = new ArrayList<>();
        int[] lastSet = {0, 0, 0, 0};
        int[] places = states.get(0).places;
        addLimits(edges, places, lastSet, 0);
        List<State> chain = chain(s);
        for (int at = 1; at <= chain.size(); at++) {
            edges.add(new Edge(at - 1, at, Bound.ZERO));
            addLimits(edges, places, lastSet, at);
            List<Way> ways = waysOf(chain.get(at - 1).move);
            for (Way w : ways) {
                for (Test t : w.tests) {
                    int i = t.i == 0 ? at : lastSet[t.i];
                    int j = t.j == 0 ? at : lastSet[t.j];
                    edges.add(new Edge(j, i, t.bound));
                }
            }
            for (int clock = 1; clock < 4; clock++) {
                if ((setsOf(ways) >> clock - 1 & 1) == 1) {
                    lastSet[clock] = at;
                }
            }
            places = chain.get(at - 1).places;
            addLimits(edges, places, lastSet, at);
        }
        return leastMoment(edges, chain.size());
    }

    private void addLimits(List<Edge> edges, int[] places, int[] lastSet, int at) {
        for (int m = 0; m < then.size(); m++) {
            for (Limit l : then.get(m).places.get(places[m])) {
                edges.add(new Edge(at, lastSet[l.clock], l.bound));
            }
        }
    }

    /** The tightest bound on moment 0 less the last one, by Bellman and Ford. */
    private static int leastMoment(List<Edge> edges, int last) {
        Bound[] from = new Bound[last + 1];
        Arrays.fill(from, Bound.NOTHING);
        from[0] = Bound.ZERO;
        boolean better = true;
        for (int round = 0; better; round++) {
            if (round > last + 2) {
                throw new IllegalStateException("the chain of moves can't be");
            }
            better = false;
            for (Edge e : edges) {
                Bound sum = from[e.a].plus(e.bound);
                if (sum.tighterThan(from[e.b])) {
                    from[e.b] = sum;
                    better = true;
                }
            }
        }
        return from[last].below ? -2 * from[last].c + 1 : -2 * from[last].c;
    }

    int stuck(int k) {
        State s = get(k);
        if (s == null || !s.looked) {
            return -1;
        }
        if (s.moves > 0) {
            return 0;
        }
        Bound[][] later = limited(passed(s.zone), s.places);
        for (int i = 1; i < 4; i++) {
            if (!later[i][0].any) {
                return 1;
            }
        }
        return 2;
    }

    // The hand.

    private int handEmpty() {
        return hand == null ? 1 : 0;
    }

    int hand(int what, int k) {
        if (what < 0 || what > 3 || what == 2 && get(k) == null) {
            return -1;
        }
        hand = what == 0 ? allTimes() : what == 1 ? allZero() : what == 2 ? get(k).zone : null;
        return 0;
    }

    int tighten(int i, int j, int c, boolean below) {
        if (i < 0 || i > 3 || j < 0 || j > 3 || i == j || c < -400 || c > 400) {
            return -1;
        }
        hand = tightened(hand, i, j, new Bound(false, c, below));
        return handEmpty();
    }

    int pass() {
        hand = passed(hand);
        return handEmpty();
    }

    int set(int clocks) {
        if (clocks < 0 || clocks > 7) {
            return -1;
        }
        hand = withSet(hand, clocks);
        return handEmpty();
    }

    int letGo(int a, int b, int c) {
        int[] m = {0, a, b, c};
        for (int n : m) {
            if (n < 0 || n > 200) {
                return -1;
            }
        }
        hand = gone(hand, m);
        return handEmpty();
    }

    int meet(int k) {
        State s = get(k);
        if (s == null) {
            return -1;
        }
        if (hand != null) {
            Bound[][] both = same(hand);
            for (int i = 0; i < 4; i++) {
                for (int j = 0; j < 4; j++) {
                    both[i][j] = s.zone[i][j].tighterThan(both[i][j]) ? s.zone[i][j] : both[i][j];
                }
            }
            hand = closed(both);
        }
        return handEmpty();
    }

    int within(int k) {
        State s = get(k);
        if (s == null) {
            return -1;
        }
        if (hand == null) {
            return 1;
        }
        return (liesIn(hand, s.zone) ? 1 : 0) + (liesIn(s.zone, hand) ? 2 : 0);
    }

    int handBound(int i, int j) {
        if (i < 0 || i > 3 || j < 0 || j > 3) {
            throw new IllegalArgumentException();
        }
        return hand == null ? -2000000 : hand[i][j].written();
    }

    int count(int what) {
        int looked = 0;
        int moves = 0;
        int covered = 0;
        for (State s : states) {
            if (s.looked) {
                looked++;
                moves += s.moves;
                covered += s.covered;
            }
        }
        if (what >= 5 && what <= 7) {
            return letsGo ? greatest[what - 4] : -2;
        }
        int[] counts = {machines.size(), states.size(), looked, moves, covered};
        return what < 0 || what > 7 ? -1 : counts[what];
    }

    // The shelves.

    int keep(int d, int what, int m, int k) {
        if (d < 0 || d > 7 || what < 0 || what > 4) {
            return -1;
        }
        if (what == 1 && !isWay(m, k) || what == 2 && !isPlace(m, k)
                || what == 3 && then == null || what == 4 && get(k) == null) {
            return -1;
        }
        if (what == 0) {
            shelves[d] = null;
        } else if (what == 1) {
            Way w = machines.get(m).ways.get(k);
            shelves[d] = new int[] {w.word, w.tests.size()};
        } else if (what == 2) {
            shelves[d] = machines.get(m).places.get(k).size();
        } else if (what == 3) {
            short[] row = new short[Math.min(60, states.size())];
            for (int s = 0; s < row.length; s++) {
                row[s] = (short) states.get(s).places[0];
            }
            shelves[d] = row;
        } else {
            long[] row = new long[16];
            for (int i = 0; i < 16; i++) {
                row[i] = get(k).zone[i / 4][i % 4].written();
            }
            shelves[d] = row;
        }
        return 0;
    }

    int make(int d, int what, int n) {
        if (d < 0 || d > 7 || what < 3 || what > 4 || n > 60) {
            return -1;
        }
        if (n < 0) {
            return -14;
        }
        shelves[d] = what == 3 ? new short[n] : new long[n];
        return 0;
    }

    private static int size(Object row) {
        return row instanceof short[] s ? s.length : row instanceof long[] l ? l.length : -1;
    }

    long element(int d, int i) {
        if (d < 0 || d > 7) {
            throw new IllegalArgumentException();
        }
        if (i < 0 || i >= size(shelves[d])) {
            throw new IllegalStateException();
        }
        return shelves[d] instanceof short[] s ? s[i] : ((long[]) shelves[d])[i];
    }

    int copy(int d, int i, int e, int j, int n) {
        if (d < 0 || d > 7 || e < 0 || e > 7) {
            return -1;
        }
        Object a = shelves[d];
        Object b = shelves[e];
        if (a == null || b == null) {
            return -11;
        }
        if (size(a) < 0 || a.getClass() != b.getClass()) {
            return -12;
        }
        if (n < 0 || i < 0 || j < 0 || (long) i + n > size(a) || (long) j + n > size(b)) {
            return -13;
        }
        Object before = a instanceof short[] s ? s.clone() : ((long[]) a).clone();
        for (int t = 0; t < n; t++) {
            if (b instanceof short[] to) {
                to[j + t] = ((short[]) before)[i + t];
            } else {
                ((long[]) b)[j + t] = ((long[]) before)[i + t];
            }
        }
        return n;
    }

    int weight(int d) {
        if (d < 0 || d > 7) {
            return -1;
        }
        if (shelves[d] == null) {
            return -11;
        }
        if (shelves[d] instanceof Integer limits) {
            return 3 + limits;
        }
        if (shelves[d] instanceof int[] w) {
            int plain = 10 + w[1];
            return w[0] == 0 ? plain : w[0] > 0 ? plain + 100 : (plain + 100) * 2;
        }
        return -12;
    }

    int toss(int d) {
        if (d < 0 || d > 7) {
            return -1;
        }
        if (shelves[d] == null) {
            return -11;
        }
        if (shelves[d] instanceof int[] w) {
            return w[0] == 0 ? -15 : Math.abs(w[0]);
        }
        return -12;
    }
}
