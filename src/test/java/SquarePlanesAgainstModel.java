import java.util.ArrayList;
import java.util.Arrays;
import java.util.Comparator;
import java.util.HashSet;
import java.util.List;
import java.util.Set;

/**
 * Runs of calls with numbers from a fixed sequence, each answer held against a second program that
 * goes word by word through the document and keeps nothing from one call to the next.
 */
public final class SquarePlanesAgainstModel {
    private static final int RUNS = 60;
    private static final int CALLS = 512;
    private static final int MOST_TOLD = 20;

    private static int wrong = 0;
    private static long seed = 20261117L;

    private static int next(int bound) {
        seed = seed * 6364136223846793005L + 1442695040888963407L;
        return (int) ((seed >>> 33) % bound);
    }

    private static int between(int low, int high) {
        return low + next(high - low + 1);
    }

    /** Mostly a number that is allowed, at times one just outside or far outside. */
    private static int about(int low, int high) {
        int kind = next(40);
        if (kind == 0) return low - 1;
        if (kind == 1) return high + 1;
        if (kind == 2) return Integer.MIN_VALUE;
        if (kind == 3) return Integer.MAX_VALUE;
        return between(low, high);
    }

    static final class Station {
        int[] direction;
        int sign = 0;
        int weight = 1;

        Station(int x, int y, int z) {
            direction = new int[] {x, y, z};
        }
    }

    static final class Model {
        static final List<List<int[]>> POLES = new ArrayList<>();
        static final List<List<int[]>> PAIRS = new ArrayList<>();

        Station[] stations = new Station[24];
        int size = 2;
        int extra = 0;

        static {
            for (int size = 0; size <= 3; size++) {
                POLES.add(makePoles(size));
                PAIRS.add(makePairs(POLES.get(size)));
            }
        }

        static int greatest(int[] t) {
            return Math.max(Math.abs(t[0]), Math.max(Math.abs(t[1]), Math.abs(t[2])));
        }

        static int dot(int[] a, int[] b) {
            return a[0] * b[0] + a[1] * b[1] + a[2] * b[2];
        }

        static int[] leastTerms(int[] t) {
            int[] r = t.clone();
            for (int d = greatest(t); d > 1; d--) {
                if (r[0] % d == 0 && r[1] % d == 0 && r[2] % d == 0) {
                    r = new int[] {r[0] / d, r[1] / d, r[2] / d};
                }
            }
            int lead = r[0] != 0 ? r[0] : r[1] != 0 ? r[1] : r[2];
            return lead > 0 ? r : new int[] {-r[0], -r[1], -r[2]};
        }

        static List<int[]> makePoles(int size) {
            List<int[]> all = new ArrayList<>();
            for (int z = size; z >= -size; z--)
                for (int y = size; y >= -size; y--)
                    for (int x = size; x >= -size; x--) {
                        int[] t = {x, y, z};
                        if (greatest(t) > 0 && Arrays.equals(t, leastTerms(t))) all.add(t);
                    }
            all.sort(Comparator.<int[]>comparingInt(t -> greatest(t)).thenComparingInt(t -> dot(t, t))
                .thenComparingInt(t -> t[0]).thenComparingInt(t -> t[1]).thenComparingInt(t -> t[2]));
            return all;
        }

        static List<int[]> makePairs(List<int[]> poles) {
            List<int[]> all = new ArrayList<>();
            for (int b = poles.size() - 1; b >= 0; b--)
                for (int a = 0; a < b; a++)
                    if (dot(poles.get(a), poles.get(b)) == 0) all.add(new int[] {a, b});
            all.sort(Comparator.<int[]>comparingInt(p -> p[0]).thenComparingInt(p -> p[1]));
            return all;
        }

        List<int[]> poles() { return POLES.get(size); }
        List<int[]> pairs() { return PAIRS.get(size); }
        int solutions() { return 2 * pairs().size(); }

        int[] onePole(int s) { return poles().get(pairs().get(s / 2)[0]); }
        int[] otherPole(int s) { return poles().get(pairs().get(s / 2)[1]); }

        int signOf(int s, int[] d) {
            int sense = s % 2 == 0 ? 1 : -1;
            return sense * Integer.signum(dot(d, onePole(s))) * Integer.signum(dot(d, otherPole(s)));
        }

        boolean isAgainst(int s, Station st) {
            return st != null && st.sign != 0 && signOf(s, st.direction) == -st.sign;
        }

        boolean isNodal(int s, Station st) {
            return st != null && st.sign != 0 && signOf(s, st.direction) == 0;
        }

        int misfit(int s) {
            int sum = 0;
            for (Station st : stations) if (isAgainst(s, st)) sum += st.weight;
            return sum;
        }

        int nodalWeight(int s) {
            int sum = 0;
            for (Station st : stations) if (isNodal(s, st)) sum += st.weight;
            return sum;
        }

        int least() {
            int least = Integer.MAX_VALUE;
            for (int s = 0; s < solutions(); s++) least = Math.min(least, misfit(s));
            return least;
        }

        List<Integer> keptOnes() {
            int[] misfits = new int[solutions()];
            int[] nodals = new int[solutions()];
            for (int s = 0; s < misfits.length; s++) {
                misfits[s] = misfit(s);
                nodals[s] = nodalWeight(s);
            }
            int least = Arrays.stream(misfits).min().getAsInt();
            List<Integer> all = new ArrayList<>();
            for (int s = misfits.length - 1; s >= 0; s--) if (misfits[s] <= least + extra) all.add(s);
            all.sort(Comparator.<Integer>comparingInt(s -> misfits[s])
                .thenComparingInt(s -> nodals[s]).thenComparingInt(s -> s));
            return all;
        }

        int[] axisOf(int s) {
            int[] p = onePole(s), q = otherPole(s);
            return leastTerms(new int[] {
                p[1] * q[2] - p[2] * q[1], p[2] * q[0] - p[0] * q[2], p[0] * q[1] - p[1] * q[0]});
        }

        static long gcd(long a, long b) { return b == 0 ? a : gcd(b, a % b); }

        static long[] apartOf(int[] u, int[] v) {
            long lower = (long) dot(u, u) * dot(v, v);
            long upper = lower - (long) dot(u, v) * dot(u, v);
            long d = gcd(lower, upper);
            return new long[] {upper / d, lower / d};
        }

        static int compare(long[] a, long[] b) { return Long.compare(a[0] * b[1], b[0] * a[1]); }

        long[] farthestFrom(int[] u, List<int[]> axes) {
            long[] most = {0, 1};
            for (int[] v : axes) {
                long[] here = apartOf(u, v);
                if (compare(here, most) > 0) most = here;
            }
            return most;
        }

        List<int[]> axesOf(List<Integer> kept) {
            List<int[]> axes = new ArrayList<>();
            for (int s : kept) axes.add(axisOf(s));
            return axes;
        }

        long[] spreadNow() {
            List<int[]> axes = axesOf(keptOnes());
            long[] most = {0, 1};
            for (int[] u : axes) {
                long[] here = farthestFrom(u, axes);
                if (compare(here, most) > 0) most = here;
            }
            return most;
        }

        int centreNow() {
            List<Integer> kept = keptOnes();
            List<int[]> axes = axesOf(kept);
            long[] best = null;
            int found = -1;
            for (int i = 0; i < axes.size(); i++) {
                long[] here = farthestFrom(axes.get(i), axes);
                if (best == null || compare(here, best) < 0) {
                    best = here;
                    found = kept.get(i);
                }
            }
            return found;
        }

        boolean has(int n) { return n >= 0 && n < 24 && stations[n] != null; }
        boolean isSolution(int s) { return s >= 0 && s < solutions(); }
        static boolean in(int v, int low, int high) { return v >= low && v <= high; }
        static boolean isTriple(int x, int y, int z) {
            return in(x, -9, 9) && in(y, -9, 9) && in(z, -9, 9) && !(x == 0 && y == 0 && z == 0);
        }

        int station(int n, int x, int y, int z) {
            if (!in(n, 0, 23)) return -1;
            if (!isTriple(x, y, z)) return -2;
            int was = stations[n] == null ? 0 : 1;
            stations[n] = new Station(x, y, z);
            return was;
        }

        int sign(int n, int s) {
            if (!has(n)) return -1;
            if (!in(s, -1, 1)) return -2;
            int was = stations[n].sign;
            stations[n].sign = s;
            return was + 1;
        }

        int weigh(int n, int w) {
            if (!has(n)) return -1;
            if (!in(w, 1, 4)) return -2;
            int was = stations[n].weight;
            stations[n].weight = w;
            return was;
        }

        int count() {
            int c = 0;
            for (Station st : stations) if (st != null) c++;
            return c;
        }

        int drop(int n) {
            if (!has(n)) return -1;
            stations[n] = null;
            return count();
        }

        int turn(int how) {
            if (!in(how, 0, 3)) return -2;
            int others = 0;
            for (Station st : stations) {
                if (st == null) continue;
                int x = st.direction[0], y = st.direction[1], z = st.direction[2];
                int[][] becomes = {{x, -z, y}, {z, y, -x}, {-y, x, z}, {x, y, -z}};
                if (!Arrays.equals(st.direction, becomes[how])) others++;
                st.direction = becomes[how];
            }
            return others;
        }

        int ofStation(int n, int what) {
            if (!has(n)) return -1;
            if (!in(what, 0, 6)) return -2;
            Station st = stations[n];
            if (what < 3) return st.direction[what] + 10;
            if (what == 3) return st.sign + 1;
            if (what == 4) return st.weight;
            int c = 0;
            for (int s : keptOnes()) if (what == 5 ? isAgainst(s, st) : isNodal(s, st)) c++;
            return c;
        }

        int size(int v) {
            if (!in(v, 1, 3)) return -2;
            int was = size;
            size = v;
            return was;
        }

        int extra(int v) {
            if (!in(v, 0, 9)) return -2;
            int was = extra;
            extra = v;
            return was;
        }

        int pole(int k, int i) {
            if (!in(k, 0, poles().size() - 1)) return -1;
            return in(i, 0, 2) ? poles().get(k)[i] + 10 : -2;
        }

        int poleOf(int p, int q, int r) {
            if (!isTriple(p, q, r)) return -2;
            int[] t = leastTerms(new int[] {p, q, r});
            for (int k = 0; k < poles().size(); k++) if (Arrays.equals(poles().get(k), t)) return k;
            return -9;
        }

        int pair(int k, int which) {
            if (!in(k, 0, pairs().size() - 1)) return -1;
            return in(which, 0, 1) ? pairs().get(k)[which] : -2;
        }

        int pairOf(int a, int b) {
            if (!in(a, 0, poles().size() - 1) || !in(b, 0, poles().size() - 1)) return -1;
            for (int k = 0; k < pairs().size(); k++) {
                int[] p = pairs().get(k);
                if (p[0] == a && p[1] == b || p[0] == b && p[1] == a) return k;
            }
            return -9;
        }

        int solution(int s, int what) {
            if (!isSolution(s)) return -1;
            if (!in(what, 0, 4)) return -2;
            if (what == 0) return misfit(s);
            if (what == 1) return nodalWeight(s);
            if (what == 3) return signOf(s, new int[] {0, 0, 1}) + 1;
            if (what == 4) {
                int place = keptOnes().indexOf(s);
                return place < 0 ? -9 : place;
            }
            int c = 0;
            for (Station st : stations) if (isAgainst(s, st)) c++;
            return c;
        }

        int signAt(int s, int x, int y, int z) {
            if (!isSolution(s)) return -1;
            return isTriple(x, y, z) ? signOf(s, new int[] {x, y, z}) + 1 : -2;
        }

        int kept(int k) {
            List<Integer> all = keptOnes();
            return in(k, 0, all.size() - 1) ? all.get(k) : -1;
        }

        int axis(int s, int i) {
            if (!isSolution(s)) return -1;
            return in(i, 0, 2) ? axisOf(s)[i] + 100 : -2;
        }

        long apart(int s, int t, int which) {
            if (!isSolution(s) || !isSolution(t) || !in(which, 0, 1)) return Long.MIN_VALUE;
            return apartOf(axisOf(s), axisOf(t))[which];
        }

        long spread(int which) {
            return in(which, 0, 1) ? spreadNow()[which] : Long.MIN_VALUE;
        }

        int leastOrKept(int what) { return what == 0 ? least() : keptOnes().size(); }

        int without(int n, int what) {
            if (!has(n)) return -1;
            if (!in(what, 0, 1)) return -2;
            Station held = stations[n];
            stations[n] = null;
            int answer = leastOrKept(what);
            stations[n] = held;
            return answer;
        }

        int turned(int n, int what) {
            if (!has(n)) return -1;
            if (!in(what, 0, 1)) return -2;
            if (stations[n].sign == 0) return -3;
            stations[n].sign = -stations[n].sign;
            int answer = leastOrKept(what);
            stations[n].sign = -stations[n].sign;
            return answer;
        }

        int foretold(int x, int y, int z, int s) {
            if (!isTriple(x, y, z) || !in(s, -1, 1)) return -2;
            int c = 0;
            for (int k : keptOnes()) if (signOf(k, new int[] {x, y, z}) == s) c++;
            return c;
        }

        int many(int what) {
            if (what == 0) return count();
            if (what == 1) return poles().size();
            if (what == 2) return pairs().size();
            if (what == 3) return keptOnes().size();
            if (what == 4) return least();
            if (what == 5) {
                Set<List<Integer>> unlike = new HashSet<>();
                for (int[] a : axesOf(keptOnes())) unlike.add(List.of(a[0], a[1], a[2]));
                return unlike.size();
            }
            if (in(what, 6, 8)) {
                int kind = what == 6 ? 1 : what == 7 ? -1 : 0, c = 0;
                for (int s : keptOnes()) if (signOf(s, new int[] {0, 0, 1}) == kind) c++;
                return c;
            }
            if (what == 9) {
                int sum = 0;
                for (Station st : stations) if (st != null && st.sign != 0) sum += st.weight;
                return sum;
            }
            return -2;
        }
    }

    private static void due(String told, long got, long want) {
        if (got == want) return;
        wrong++;
        if (wrong <= MOST_TOLD) System.out.println(told + " answered " + got + ", due is " + want);
    }

    private static void changeOnce(String at, SquarePlanes x, Model m, int most) {
        int n = about(0, most);
        switch (next(12)) {
            case 0: case 1: {
                int a = about(-9, 9), b = about(-9, 9), c = about(-9, 9);
                due(at + "station(" + n + ", " + a + ", " + b + ", " + c + ")",
                    x.station(n, a, b, c), m.station(n, a, b, c));
                break;
            }
            case 2: {
                int a = between(-1, 1), b = between(-1, 1), c = between(-1, 1);
                due(at + "station(" + n + ", " + a + ", " + b + ", " + c + ")",
                    x.station(n, a, b, c), m.station(n, a, b, c));
                break;
            }
            case 3: case 4: case 5: case 6: {
                int s = next(5) == 0 ? about(-1, 1) : 2 * next(2) - 1;
                due(at + "sign(" + n + ", " + s + ")", x.sign(n, s), m.sign(n, s));
                break;
            }
            case 7: {
                int w = about(1, 4);
                due(at + "weigh(" + n + ", " + w + ")", x.weigh(n, w), m.weigh(n, w));
                break;
            }
            case 8:
                if (next(3) == 0) due(at + "drop(" + n + ")", x.drop(n), m.drop(n));
                break;
            case 9: {
                int how = about(0, 3);
                due(at + "turn(" + how + ")", x.turn(how), m.turn(how));
                break;
            }
            case 10: {
                int v = about(1, 3);
                due(at + "size(" + v + ")", x.size(v), m.size(v));
                break;
            }
            default: {
                int v = about(0, 9);
                due(at + "extra(" + v + ")", x.extra(v), m.extra(v));
                break;
            }
        }
    }

    private static void askOfStation(String at, SquarePlanes x, Model m, int most) {
        int n = about(0, most);
        switch (next(3)) {
            case 0: {
                int what = about(0, 6);
                due(at + "ofStation(" + n + ", " + what + ")", x.ofStation(n, what), m.ofStation(n, what));
                break;
            }
            case 1: {
                int what = about(0, 1);
                due(at + "without(" + n + ", " + what + ")", x.without(n, what), m.without(n, what));
                break;
            }
            default: {
                int what = about(0, 1);
                due(at + "turned(" + n + ", " + what + ")", x.turned(n, what), m.turned(n, what));
                break;
            }
        }
    }

    private static void askOfPoles(String at, SquarePlanes x, Model m) {
        int most = m.poles().size() - 1;
        switch (next(4)) {
            case 0: {
                int k = about(0, most), i = about(0, 2);
                due(at + "pole(" + k + ", " + i + ")", x.pole(k, i), m.pole(k, i));
                break;
            }
            case 1: {
                int far = next(2) == 0 ? 9 : 3;
                int p = about(-far, far), q = about(-far, far), r = about(-far, far);
                due(at + "poleOf(" + p + ", " + q + ", " + r + ")", x.poleOf(p, q, r), m.poleOf(p, q, r));
                break;
            }
            case 2: {
                int k = about(0, m.pairs().size() - 1), which = about(0, 1);
                due(at + "pair(" + k + ", " + which + ")", x.pair(k, which), m.pair(k, which));
                break;
            }
            default: {
                int a = about(0, most), b = about(0, most);
                if (next(2) == 0) {
                    int[] pair = m.pairs().get(next(m.pairs().size()));
                    int first = next(2);
                    a = pair[first];
                    b = pair[1 - first];
                }
                due(at + "pairOf(" + a + ", " + b + ")", x.pairOf(a, b), m.pairOf(a, b));
                break;
            }
        }
    }

    private static void askOfSolutions(String at, SquarePlanes x, Model m) {
        int s = about(0, m.solutions() - 1);
        switch (next(5)) {
            case 0: {
                if (next(2) == 0) s = m.kept(0);
                int what = about(0, 4);
                due(at + "solution(" + s + ", " + what + ")", x.solution(s, what), m.solution(s, what));
                break;
            }
            case 1: {
                int a = about(-9, 9), b = about(-9, 9), c = about(-9, 9);
                due(at + "signAt(" + s + ", " + a + ", " + b + ", " + c + ")",
                    x.signAt(s, a, b, c), m.signAt(s, a, b, c));
                break;
            }
            case 2: {
                int k = about(0, m.many(3) - 1);
                due(at + "kept(" + k + ")", x.kept(k), m.kept(k));
                break;
            }
            case 3: {
                int i = about(0, 2);
                due(at + "axis(" + s + ", " + i + ")", x.axis(s, i), m.axis(s, i));
                break;
            }
            default: {
                int t = about(0, m.solutions() - 1), which = about(0, 1);
                due(at + "apart(" + s + ", " + t + ", " + which + ")", x.apart(s, t, which), m.apart(s, t, which));
                break;
            }
        }
    }

    private static void askOfAll(String at, SquarePlanes x, Model m) {
        switch (next(6)) {
            case 0: {
                int which = about(0, 1);
                due(at + "spread(" + which + ")", x.spread(which), m.spread(which));
                break;
            }
            case 1:
                due(at + "centre()", x.centre(), m.centreNow());
                break;
            case 2: {
                int a = about(-9, 9), b = about(-9, 9), c = about(-9, 9), s = about(-1, 1);
                due(at + "foretold(" + a + ", " + b + ", " + c + ", " + s + ")",
                    x.foretold(a, b, c, s), m.foretold(a, b, c, s));
                break;
            }
            default: {
                int what = about(0, 9);
                due(at + "many(" + what + ")", x.many(what), m.many(what));
                break;
            }
        }
    }

    /** Few STATIONS leave many KEPT ones, many leave few: both kinds of runs are made. */
    private static void run(int number) {
        SquarePlanes x = new SquarePlanes();
        Model m = new Model();
        int most = number % 2 == 0 ? 23 : number % 8;
        for (int call = 0; call < CALLS; call++) {
            String at = "run " + number + ", call " + call + ": ";
            int kind = call < 64 ? 0 : next(9);
            if (kind < 3) changeOnce(at, x, m, most);
            else if (kind < 5) askOfStation(at, x, m, most);
            else if (kind < 6) askOfPoles(at, x, m);
            else if (kind < 7) askOfSolutions(at, x, m);
            else askOfAll(at, x, m);
        }
    }

    public static void main(String[] args) {
        for (int number = 0; number < RUNS; number++) run(number);
        System.out.println(wrong == 0 ? "all answers are as the model's" : wrong + " answers are not as the model's");
        if (wrong != 0) System.exit(1);
    }
}
