import java.util.Arrays;

/** First motions of a quake, and the pairs of square planes that part up from down. */
public final class SquarePlanes {
    public static final int UNKNOWN = -1, OUTSIDE = -2, STATE = -3, NONE = -9;
    public static final long LOST = Long.MIN_VALUE;

    private static final int STATION_ROOM = 24;
    private static final int GREATEST_NUMBER = 9;
    private static final int GREATEST_WEIGHT = 4;
    private static final int GREATEST_SIZE = 3;
    private static final int GREATEST_EXTRA = 9;
    private static final int FIRST_SIZE = 2;
    private static final int MOST_WEIGHT = STATION_ROOM * GREATEST_WEIGHT;
    /** Half of all triples of -3 .. 3 but (0, 0, 0): no more can be POLES. */
    private static final int POLE_ROOM = 171;

    private final Stations stations;
    private final Poles poles;
    /** By SIZE; one is made when its SIZE is first set, and used again from then on. */
    private final Ranking[] rankings;
    private Ranking current;
    private int sizeNow;
    private int extraNow;
    /** Counts changes, so that a ranking knows whether it is still right. */
    private int version;

    public SquarePlanes() {
        stations = new Stations();
        poles = new Poles();
        rankings = new Ranking[GREATEST_SIZE + 1];
        sizeNow = FIRST_SIZE;
        current = new Ranking(new Planes(poles, poles.countUpTo[FIRST_SIZE]));
        rankings[FIRST_SIZE] = current;
        extraNow = 0;
        version = 0;
    }

    // ---- 1 stations

    public int station(int n, int x, int y, int z) {
        if (n < 0 || n >= STATION_ROOM) {
            return UNKNOWN;
        }
        if (!isTriple(x, y, z)) {
            return OUTSIDE;
        }
        int before = stations.there[n] ? 1 : 0;
        stations.put(n, x, y, z);
        version++;
        return before;
    }

    public int sign(int n, int s) {
        if (!stations.has(n)) {
            return UNKNOWN;
        }
        if (s < -1 || s > 1) {
            return OUTSIDE;
        }
        int before = stations.signs[n];
        stations.signs[n] = s;
        version++;
        return before + 1;
    }

    public int weigh(int n, int w) {
        if (!stations.has(n)) {
            return UNKNOWN;
        }
        if (w < 1 || w > GREATEST_WEIGHT) {
            return OUTSIDE;
        }
        int before = stations.weights[n];
        stations.weights[n] = w;
        version++;
        return before;
    }

    public int drop(int n) {
        if (!stations.has(n)) {
            return UNKNOWN;
        }
        stations.there[n] = false;
        version++;
        return stations.count();
    }

    public int turn(int how) {
        if (how < 0 || how > 3) {
            return OUTSIDE;
        }
        version++;
        return stations.turnAll(how);
    }

    public int ofStation(int n, int what) {
        if (!stations.has(n)) {
            return UNKNOWN;
        }
        switch (what) {
            case 0:
                return stations.xs[n] + 10;
            case 1:
                return stations.ys[n] + 10;
            case 2:
                return stations.zs[n] + 10;
            case 3:
                return stations.signs[n] + 1;
            case 4:
                return stations.weights[n];
            case 5:
                return keptAtStation(n, -stations.signs[n]);
            case 6:
                return keptAtStation(n, 0);
            default:
                return OUTSIDE;
        }
    }

    // ---- 2 poles, pairs, solutions

    public int size(int v) {
        if (v < 1 || v > GREATEST_SIZE) {
            return OUTSIDE;
        }
        int before = sizeNow;
        sizeNow = v;
        current = rankingOfSize(v);
        return before;
    }

    public int extra(int v) {
        if (v < 0 || v > GREATEST_EXTRA) {
            return OUTSIDE;
        }
        int before = extraNow;
        extraNow = v;
        version++;
        return before;
    }

    public int pole(int k, int i) {
        if (!isPole(k)) {
            return UNKNOWN;
        }
        switch (i) {
            case 0:
                return poles.xs[k] + 10;
            case 1:
                return poles.ys[k] + 10;
            case 2:
                return poles.zs[k] + 10;
            default:
                return OUTSIDE;
        }
    }

    public int poleOf(int p, int q, int r) {
        if (!isTriple(p, q, r)) {
            return OUTSIDE;
        }
        int divisor = signedDivisor(p, q, r);
        if (divisor == 0) {
            return OUTSIDE;
        }
        return poles.find(p / divisor, q / divisor, r / divisor, poles.countUpTo[sizeNow]);
    }

    public int pair(int k, int which) {
        Planes planes = current.planes;
        if (k < 0 || k >= planes.pairCount) {
            return UNKNOWN;
        }
        if (which == 0) {
            return planes.lesser[k];
        }
        return which == 1 ? planes.greater[k] : OUTSIDE;
    }

    public int pairOf(int a, int b) {
        if (!isPole(a) || !isPole(b)) {
            return UNKNOWN;
        }
        return current.planes.find(Math.min(a, b), Math.max(a, b));
    }

    public int solution(int s, int what) {
        Planes planes = current.planes;
        if (!planes.hasSolution(s)) {
            return UNKNOWN;
        }
        switch (what) {
            case 0:
                return rankingNow().misfits[s];
            case 1:
                return rankingNow().nodals[s / 2];
            case 2:
                return stations.countAgainst(planes, s);
            case 3:
                return planes.signAlong(s, 0, 0, 1) + 1;
            case 4:
                return rankingNow().places[s];
            default:
                return OUTSIDE;
        }
    }

    public int signAt(int s, int x, int y, int z) {
        Planes planes = current.planes;
        if (!planes.hasSolution(s)) {
            return UNKNOWN;
        }
        return isTriple(x, y, z) ? planes.signAlong(s, x, y, z) + 1 : OUTSIDE;
    }

    public int kept(int k) {
        Ranking ranking = rankingNow();
        return k < 0 || k >= ranking.keptCount ? UNKNOWN : ranking.order[k];
    }

    // ---- 3 axes

    public int axis(int s, int i) {
        Planes planes = current.planes;
        if (!planes.hasSolution(s)) {
            return UNKNOWN;
        }
        int a = planes.axisOf[s / 2];
        switch (i) {
            case 0:
                return planes.axisXs[a] + 100;
            case 1:
                return planes.axisYs[a] + 100;
            case 2:
                return planes.axisZs[a] + 100;
            default:
                return OUTSIDE;
        }
    }

    public long apart(int s, int t, int which) {
        Planes planes = current.planes;
        if (!planes.hasSolution(s) || !planes.hasSolution(t) || which < 0 || which > 1) {
            return LOST;
        }
        int a = planes.axisOf[s / 2];
        int b = planes.axisOf[t / 2];
        return leastTerm(planes.apartUpper(a, b), planes.apartLower(a, b), which);
    }

    public long spread(int which) {
        if (which < 0 || which > 1) {
            return LOST;
        }
        Bundle bundle = bundleNow();
        return leastTerm(bundle.spreadUpper, bundle.spreadLower, which);
    }

    public int centre() {
        return bundleNow().centreSolution;
    }

    // ---- 4 what would be

    public int without(int n, int what) {
        if (!stations.has(n)) {
            return UNKNOWN;
        }
        if (what < 0 || what > 1) {
            return OUTSIDE;
        }
        // A STATION without a SIGN weighs nothing, just as one that is not there.
        return wouldBe(n, 0, what);
    }

    public int turned(int n, int what) {
        if (!stations.has(n)) {
            return UNKNOWN;
        }
        if (what < 0 || what > 1) {
            return OUTSIDE;
        }
        int now = stations.signs[n];
        return now == 0 ? STATE : wouldBe(n, -now, what);
    }

    public int foretold(int x, int y, int z, int s) {
        if (!isTriple(x, y, z) || s < -1 || s > 1) {
            return OUTSIDE;
        }
        return rankingNow().keptWithSign(x, y, z, s);
    }

    public int many(int what) {
        switch (what) {
            case 0:
                return stations.count();
            case 1:
                return poles.countUpTo[sizeNow];
            case 2:
                return current.planes.pairCount;
            case 3:
                return rankingNow().keptCount;
            case 4:
                return rankingNow().least;
            case 5:
                return bundleNow().count;
            case 6:
                return rankingNow().keptWithSign(0, 0, 1, 1);
            case 7:
                return rankingNow().keptWithSign(0, 0, 1, -1);
            case 8:
                return rankingNow().keptWithSign(0, 0, 1, 0);
            case 9:
                return stations.signedWeight();
            default:
                return OUTSIDE;
        }
    }

    // ---- what the calls share

    private boolean isPole(int k) {
        return k >= 0 && k < poles.countUpTo[sizeNow];
    }

    private Ranking rankingOfSize(int v) {
        Ranking found = rankings[v];
        if (found == null) {
            found = new Ranking(new Planes(poles, poles.countUpTo[v]));
            rankings[v] = found;
        }
        return found;
    }

    /** The current ranking, brought up to the last change. */
    private Ranking rankingNow() {
        if (current.version != version) {
            current.refresh(stations, extraNow);
            current.version = version;
        }
        return current;
    }

    private Bundle bundleNow() {
        Ranking ranking = rankingNow();
        Bundle bundle = ranking.bundle;
        if (bundle.version != version) {
            bundle.refresh(ranking);
            bundle.version = version;
        }
        return bundle;
    }

    /** How many KEPT ones have that SIGN at a STATION; none, if it has no SIGN to be against. */
    private int keptAtStation(int n, int s) {
        if (stations.signs[n] == 0) {
            return 0;
        }
        return rankingNow().keptWithSign(stations.xs[n], stations.ys[n], stations.zs[n], s);
    }

    private int wouldBe(int n, int instead, int what) {
        Ranking ranking = rankingNow();
        ranking.countMisfitsWith(stations, n, instead);
        int lowest = ranking.lowestCounted();
        return what == 0 ? lowest : ranking.countedFrom(lowest, extraNow);
    }

    private static boolean isTriple(int x, int y, int z) {
        return isNumber(x) && isNumber(y) && isNumber(z) && (x != 0 || y != 0 || z != 0);
    }

    private static boolean isNumber(int v) {
        return v >= -GREATEST_NUMBER && v <= GREATEST_NUMBER;
    }

    private static int signOf(int v) {
        return v > 0 ? 1 : v < 0 ? -1 : 0;
    }

    private static int commonDivisor(int a, int b) {
        int u = Math.abs(a);
        int v = Math.abs(b);
        for (int step = 0; step < 64 && v != 0; step++) {
            int rest = u % v;
            u = v;
            v = rest;
        }
        return u;
    }

    /** What to divide a triple by, so that it is in least terms and its first number is above 0. */
    private static int signedDivisor(int x, int y, int z) {
        int divisor = commonDivisor(commonDivisor(x, y), z);
        int leading = x != 0 ? x : y != 0 ? y : z;
        return leading < 0 ? -divisor : divisor;
    }

    private static long leastTerm(int upper, int lower, int which) {
        int divisor = commonDivisor(upper, lower);
        if (divisor == 0) {
            return LOST;
        }
        return which == 0 ? upper / divisor : lower / divisor;
    }

    private static boolean isGreater(int upper, int lower, int otherUpper, int otherLower) {
        return (long) upper * otherLower > (long) otherUpper * lower;
    }

    /** The STATIONS, each in its own place. */
    private static final class Stations {
        final boolean[] there = new boolean[STATION_ROOM];
        final int[] xs = new int[STATION_ROOM];
        final int[] ys = new int[STATION_ROOM];
        final int[] zs = new int[STATION_ROOM];
        final int[] signs = new int[STATION_ROOM];
        final int[] weights = new int[STATION_ROOM];

        boolean has(int n) {
            return n >= 0 && n < STATION_ROOM && there[n];
        }

        boolean isSigned(int n) {
            return there[n] && signs[n] != 0;
        }

        void put(int n, int x, int y, int z) {
            there[n] = true;
            signs[n] = 0;
            weights[n] = 1;
            aim(n, x, y, z);
        }

        int count() {
            int found = 0;
            for (int n = 0; n < STATION_ROOM; n++) {
                if (there[n]) {
                    found++;
                }
            }
            return found;
        }

        int signedWeight() {
            int together = 0;
            for (int n = 0; n < STATION_ROOM; n++) {
                if (isSigned(n)) {
                    together += weights[n];
                }
            }
            return together;
        }

        int countAgainst(Planes planes, int s) {
            int found = 0;
            for (int n = 0; n < STATION_ROOM; n++) {
                if (isSigned(n) && planes.signAlong(s, xs[n], ys[n], zs[n]) == -signs[n]) {
                    found++;
                }
            }
            return found;
        }

        int turnAll(int how) {
            int changed = 0;
            for (int n = 0; n < STATION_ROOM; n++) {
                if (there[n] && turnOne(n, how)) {
                    changed++;
                }
            }
            return changed;
        }

        private boolean turnOne(int n, int how) {
            int x = xs[n];
            int y = ys[n];
            int z = zs[n];
            switch (how) {
                case 0:
                    aim(n, x, -z, y);
                    break;
                case 1:
                    aim(n, z, y, -x);
                    break;
                case 2:
                    aim(n, -y, x, z);
                    break;
                default:
                    aim(n, x, y, -z);
                    break;
            }
            return xs[n] != x || ys[n] != y || zs[n] != z;
        }

        private void aim(int n, int x, int y, int z) {
            xs[n] = x;
            ys[n] = y;
            zs[n] = z;
        }
    }

    /** The POLES of the greatest SIZE; those of a lesser SIZE are the first ones of them. */
    private static final class Poles {
        final int[] xs = new int[POLE_ROOM];
        final int[] ys = new int[POLE_ROOM];
        final int[] zs = new int[POLE_ROOM];
        final int[] countUpTo = new int[GREATEST_SIZE + 1];
        private int count;

        Poles() {
            for (int greatest = 1; greatest <= GREATEST_SIZE; greatest++) {
                int square = greatest * greatest;
                for (int squares = square; squares <= 3 * square; squares++) {
                    addShell(greatest, squares);
                }
                countUpTo[greatest] = count;
            }
        }

        private void addShell(int greatest, int squares) {
            for (int x = 0; x <= greatest; x++) {
                for (int y = -greatest; y <= greatest; y++) {
                    for (int z = -greatest; z <= greatest; z++) {
                        if (x * x + y * y + z * z == squares && reaches(greatest, x, y, z)) {
                            addIfPole(x, y, z);
                        }
                    }
                }
            }
        }

        private static boolean reaches(int greatest, int x, int y, int z) {
            return x == greatest || Math.abs(y) == greatest || Math.abs(z) == greatest;
        }

        private void addIfPole(int x, int y, int z) {
            if (signedDivisor(x, y, z) == 1 && count < POLE_ROOM) {
                xs[count] = x;
                ys[count] = y;
                zs[count] = z;
                count++;
            }
        }

        int find(int x, int y, int z, int among) {
            for (int k = 0; k < among; k++) {
                if (xs[k] == x && ys[k] == y && zs[k] == z) {
                    return k;
                }
            }
            return NONE;
        }

        int dot(int k, int x, int y, int z) {
            return xs[k] * x + ys[k] * y + zs[k] * z;
        }

        boolean areSquare(int a, int b) {
            return dot(a, xs[b], ys[b], zs[b]) == 0;
        }
    }

    /** The PAIRS of one SIZE with their AXES, which no call changes. */
    private static final class Planes {
        final Poles poles;
        final int poleCount;
        final int pairCount;
        final int[] lesser;
        final int[] greater;
        /** Many PAIRS share an AXIS; each AXIS is held once. */
        final int[] axisOf;
        final int[] axisXs;
        final int[] axisYs;
        final int[] axisZs;
        /** The dot of each AXIS with itself. */
        private final int[] axisSquares;
        int axisCount;
        /** The sign of each POLE's dot with the triple that was looked along last. */
        private final int[] poleSigns;

        Planes(Poles poles, int poleCount) {
            this.poles = poles;
            this.poleCount = poleCount;
            this.pairCount = countPairs(poles, poleCount);
            lesser = new int[pairCount];
            greater = new int[pairCount];
            axisOf = new int[pairCount];
            axisXs = new int[pairCount];
            axisYs = new int[pairCount];
            axisZs = new int[pairCount];
            axisSquares = new int[pairCount];
            poleSigns = new int[poleCount];
            fillPairs();
            for (int k = 0; k < pairCount; k++) {
                axisOf[k] = axisNumber(lesser[k], greater[k]);
            }
        }

        private static int countPairs(Poles poles, int poleCount) {
            int found = 0;
            for (int a = 0; a < poleCount; a++) {
                for (int b = a + 1; b < poleCount; b++) {
                    if (poles.areSquare(a, b)) {
                        found++;
                    }
                }
            }
            return found;
        }

        private void fillPairs() {
            int next = 0;
            for (int a = 0; a < poleCount; a++) {
                for (int b = a + 1; b < poleCount; b++) {
                    if (poles.areSquare(a, b) && next < pairCount) {
                        lesser[next] = a;
                        greater[next] = b;
                        next++;
                    }
                }
            }
        }

        private int axisNumber(int a, int b) {
            int x = poles.ys[a] * poles.zs[b] - poles.zs[a] * poles.ys[b];
            int y = poles.zs[a] * poles.xs[b] - poles.xs[a] * poles.zs[b];
            int z = poles.xs[a] * poles.ys[b] - poles.ys[a] * poles.xs[b];
            int divisor = signedDivisor(x, y, z);
            return divisor == 0 ? 0 : heldAxis(x / divisor, y / divisor, z / divisor);
        }

        private int heldAxis(int x, int y, int z) {
            for (int a = 0; a < axisCount; a++) {
                if (axisXs[a] == x && axisYs[a] == y && axisZs[a] == z) {
                    return a;
                }
            }
            if (axisCount >= pairCount) {
                return 0;
            }
            axisXs[axisCount] = x;
            axisYs[axisCount] = y;
            axisZs[axisCount] = z;
            axisSquares[axisCount] = x * x + y * y + z * z;
            axisCount++;
            return axisCount - 1;
        }

        int solutionCount() {
            return 2 * pairCount;
        }

        boolean hasSolution(int s) {
            return s >= 0 && s < solutionCount();
        }

        int find(int a, int b) {
            for (int k = 0; k < pairCount; k++) {
                if (lesser[k] == a && greater[k] == b) {
                    return k;
                }
            }
            return NONE;
        }

        int signAlong(int s, int x, int y, int z) {
            int one = signOf(poles.dot(lesser[s / 2], x, y, z));
            int other = signOf(poles.dot(greater[s / 2], x, y, z));
            return sense(s) * one * other;
        }

        /** For many SOLUTIONS at one triple: each POLE's dot is made once, then seenSign is asked. */
        void lookAlong(int x, int y, int z) {
            for (int k = 0; k < poleCount; k++) {
                poleSigns[k] = signOf(poles.dot(k, x, y, z));
            }
        }

        int seenSign(int s) {
            return sense(s) * seenPairSign(s / 2);
        }

        int seenPairSign(int k) {
            return poleSigns[lesser[k]] * poleSigns[greater[k]];
        }

        private static int sense(int s) {
            return s % 2 == 0 ? 1 : -1;
        }

        int axisDot(int a, int b) {
            return axisXs[a] * axisXs[b] + axisYs[a] * axisYs[b] + axisZs[a] * axisZs[b];
        }

        int apartUpper(int a, int b) {
            int dot = axisDot(a, b);
            return apartLower(a, b) - dot * dot;
        }

        int apartLower(int a, int b) {
            return axisSquares[a] * axisSquares[b];
        }
    }

    /** The MISFITS of all SOLUTIONS of one SIZE, and the KEPT ones in their order. */
    private static final class Ranking {
        final Planes planes;
        final Bundle bundle;
        final int[] misfits;
        /** By PAIR, as both SENSES have the same NODAL STATIONS. */
        final int[] nodals;
        final int[] order;
        final int[] places;
        int keptCount;
        int least;
        int version = -1;
        /** How many SOLUTIONS have each MISFIT, for the question asked last. */
        private final int[] counted = new int[MOST_WEIGHT + 1];
        /** Where in the order the KEPT ones of a MISFIT and NODAL weight begin. */
        private final int[] begins = new int[(GREATEST_EXTRA + 1) * (MOST_WEIGHT + 1) + 1];

        Ranking(Planes planes) {
            this.planes = planes;
            bundle = new Bundle(planes);
            misfits = new int[planes.solutionCount()];
            nodals = new int[planes.pairCount];
            order = new int[planes.solutionCount()];
            places = new int[planes.solutionCount()];
        }

        void refresh(Stations stations, int extra) {
            Arrays.fill(misfits, 0);
            Arrays.fill(nodals, 0);
            for (int n = 0; n < STATION_ROOM; n++) {
                if (stations.isSigned(n)) {
                    addStation(stations, n);
                }
            }
            least = MOST_WEIGHT;
            for (int s = 0; s < misfits.length; s++) {
                least = Math.min(least, misfits[s]);
            }
            findBegins(extra);
            placeKept(extra);
        }

        private void addStation(Stations stations, int n) {
            planes.lookAlong(stations.xs[n], stations.ys[n], stations.zs[n]);
            int weight = stations.weights[n];
            int sign = stations.signs[n];
            for (int k = 0; k < nodals.length; k++) {
                int agrees = planes.seenPairSign(k) * sign;
                if (agrees == 0) {
                    nodals[k] += weight;
                } else if (agrees < 0) {
                    misfits[2 * k] += weight;
                } else {
                    misfits[2 * k + 1] += weight;
                }
            }
        }

        private boolean isKept(int s, int extra) {
            return misfits[s] <= least + extra;
        }

        private int rank(int s) {
            return (misfits[s] - least) * (MOST_WEIGHT + 1) + nodals[s / 2];
        }

        private void findBegins(int extra) {
            Arrays.fill(begins, 0);
            for (int s = 0; s < misfits.length; s++) {
                if (isKept(s, extra)) {
                    begins[rank(s) + 1]++;
                }
            }
            for (int r = 1; r < begins.length; r++) {
                begins[r] += begins[r - 1];
            }
            keptCount = begins[begins.length - 1];
        }

        /** Going by number keeps those of one rank in the order of their numbers. */
        private void placeKept(int extra) {
            for (int s = 0; s < misfits.length; s++) {
                if (isKept(s, extra)) {
                    int place = begins[rank(s)]++;
                    order[place] = s;
                    places[s] = place;
                } else {
                    places[s] = NONE;
                }
            }
        }

        int keptWithSign(int x, int y, int z, int sign) {
            planes.lookAlong(x, y, z);
            int found = 0;
            for (int k = 0; k < keptCount; k++) {
                if (planes.seenSign(order[k]) == sign) {
                    found++;
                }
            }
            return found;
        }

        /** Counts the MISFITS as they would be, if a STATION had another SIGN instead of its own. */
        void countMisfitsWith(Stations stations, int n, int instead) {
            planes.lookAlong(stations.xs[n], stations.ys[n], stations.zs[n]);
            int weight = stations.weights[n];
            Arrays.fill(counted, 0);
            for (int s = 0; s < misfits.length; s++) {
                int seen = planes.seenSign(s);
                int before = seen * stations.signs[n] < 0 ? weight : 0;
                int after = seen * instead < 0 ? weight : 0;
                int misfit = misfits[s] - before + after;
                if (misfit >= 0 && misfit <= MOST_WEIGHT) {
                    counted[misfit]++;
                }
            }
        }

        int lowestCounted() {
            int lowest = 0;
            while (lowest < MOST_WEIGHT && counted[lowest] == 0) {
                lowest++;
            }
            return lowest;
        }

        int countedFrom(int lowest, int extra) {
            int together = 0;
            for (int m = lowest; m <= MOST_WEIGHT && m <= lowest + extra; m++) {
                together += counted[m];
            }
            return together;
        }
    }

    /** The unlike AXES of the KEPT SOLUTIONS, and how far they are apart. */
    private static final class Bundle {
        final Planes planes;
        int count;
        int spreadUpper;
        int spreadLower = 1;
        int centreSolution;
        int version = -1;
        private final boolean[] isHeld;
        private final int[] axes;
        /** The first KEPT SOLUTION that has each of the axes. */
        private final int[] firstSolutions;
        private int farUpper;
        private int farLower = 1;

        Bundle(Planes planes) {
            this.planes = planes;
            isHeld = new boolean[planes.axisCount];
            axes = new int[planes.axisCount];
            firstSolutions = new int[planes.axisCount];
        }

        void refresh(Ranking ranking) {
            gather(ranking);
            spreadUpper = 0;
            spreadLower = 1;
            int nearUpper = 0;
            int nearLower = 1;
            for (int i = 0; i < count; i++) {
                findFarthest(axes[i]);
                if (isGreater(farUpper, farLower, spreadUpper, spreadLower)) {
                    spreadUpper = farUpper;
                    spreadLower = farLower;
                }
                if (i == 0 || isGreater(nearUpper, nearLower, farUpper, farLower)) {
                    nearUpper = farUpper;
                    nearLower = farLower;
                    centreSolution = firstSolutions[i];
                }
            }
        }

        /** Goes in the order of KEPT ones, so that of several centres the first one is found. */
        private void gather(Ranking ranking) {
            count = 0;
            for (int a = 0; a < isHeld.length; a++) {
                isHeld[a] = false;
            }
            for (int k = 0; k < ranking.keptCount; k++) {
                int s = ranking.order[k];
                int a = planes.axisOf[s / 2];
                if (!isHeld[a] && count < axes.length) {
                    isHeld[a] = true;
                    axes[count] = a;
                    firstSolutions[count] = s;
                    count++;
                }
            }
        }

        private void findFarthest(int a) {
            farUpper = 0;
            farLower = 1;
            for (int i = 0; i < count; i++) {
                int upper = planes.apartUpper(a, axes[i]);
                int lower = planes.apartLower(a, axes[i]);
                if (isGreater(upper, lower, farUpper, farLower)) {
                    farUpper = upper;
                    farLower = lower;
                }
                // Square axes are as far apart as any can be.
                if (upper == lower) {
                    break;
                }
            }
        }
    }
}
