import java.util.Arrays;

/**
 * Every refusal that the document names, each with a test of its own: what is answered, what is looked
 * at first where several things are wrong, and that nothing is changed.
 */
public final class SquarePlanesRefusals {
    private static final int[] FAR_OUT = {Integer.MIN_VALUE, Integer.MAX_VALUE};
    /** Numbers that become 0 where only their lowest 5, 8 or 16 places are looked at. */
    private static final int[] ROUND = {32, -32, 256, -256, 65536, -65536, 1 << 30};

    /** A call with one number left open. */
    private interface With {
        Edges.Ask number(int v);
    }

    /** STATIONS 0 (up), 7 (down), 23 (no SIGN); 5 is there no more, 1 never was; EXTRA is 2. */
    private static SquarePlanes crowded(int size) {
        // A greater SIZE went ahead: its POLES and PAIRS must be there no more.
        SquarePlanes x = Edges.ofSize(3);
        Edges.put(x, 0, Edges.STEEP, 1, 2);
        Edges.put(x, 5, Edges.STEEP, -1, 3);
        Edges.put(x, 7, new int[] {0, 0, 5}, -1, 4);
        x.station(23, 1, 2, 3);
        x.drop(5);
        x.extra(2);
        x.many(3);
        x.size(size);
        return x;
    }

    /** What calls tell of an object: some 70 calls, so that it can be asked twice within 512. */
    private static long[] seen(SquarePlanes x) {
        long[] told = new long[24 * 7 + 24];
        int i = 0;
        for (int n = 0; n < 24; n++) {
            told[i++] = x.ofStation(n, 0);
            for (int what = 1; what < 7 && told[i - 1] != Edges.UNKNOWN; what++) told[i++] = x.ofStation(n, what);
        }
        for (int what = 0; what < 10; what++) told[i++] = x.many(what);
        told[i++] = x.kept(0);
        told[i++] = x.kept(x.many(3) - 1);
        told[i++] = x.spread(0);
        told[i++] = x.spread(1);
        told[i++] = x.centre();
        for (int s = 0; s < 4; s++) told[i++] = x.solution(s, 0);
        int extra = x.extra(0);
        x.extra(extra);
        told[i++] = extra;
        // What was found ahead is found anew now, so that a change that was not noticed is seen as well.
        told[i++] = x.many(3);
        told[i++] = x.many(4);
        return told;
    }

    private static void refused(String call, Edges.Ask ask, long want) {
        for (int size = 1; size <= 3; size++) refusedBy(size, call, ask, want);
    }

    private static void refusedBy(int size, String call, Edges.Ask ask, long want) {
        SquarePlanes x = crowded(size);
        long[] before = seen(x);
        Edges.due(call + " by SIZE " + size, ask.of(x), want);
        Edges.dueTrue(call + " changes nothing", Arrays.equals(before, seen(x)));
    }

    private static void refusedAll(With call, int[] numbers, long want) {
        for (int v : numbers) refused("with " + v, call.number(v), want);
    }

    private static void edge(String sentence, With call, long want, int... numbers) {
        Edges.edge(sentence, () -> refusedAll(call, numbers, want));
    }

    /** The ways in which there is no such STATION. */
    private static void noStation(String promise, With call) {
        edge(promise + ", UNKNOWN: n is too small", call, Edges.UNKNOWN, -1);
        edge(promise + ", UNKNOWN: n is too large", call, Edges.UNKNOWN, 24);
        edge(promise + ", UNKNOWN: n is far outside", call, Edges.UNKNOWN, FAR_OUT);
        edge(promise + ", UNKNOWN: n is no STATION that wraps around to one", call, Edges.UNKNOWN, ROUND);
        edge(promise + ", UNKNOWN: the STATION never was there", call, Edges.UNKNOWN, 1, 22);
        edge(promise + ", UNKNOWN: the STATION is there no more", call, Edges.UNKNOWN, 5);
        Edges.edge(promise + ", UNKNOWN: a new object has no STATION", () -> {
            SquarePlanes x = new SquarePlanes();
            for (int n = 0; n < 24; n++) Edges.due("of STATION " + n, call.number(n).of(x), Edges.UNKNOWN);
        });
    }

    /** A number that is not as told: low and high are the least and the greatest that are. */
    private static void outside(String promise, String number, int low, int high, With call, long want) {
        edge(promise + ", OUTSIDE: " + number + " is too small", call, want, low - 1);
        edge(promise + ", OUTSIDE: " + number + " is too large", call, want, high + 1);
        edge(promise + ", OUTSIDE: " + number + " is far outside", call, want, FAR_OUT);
        edge(promise + ", OUTSIDE: " + number + " wraps around to none", call, want, ROUND);
    }

    private interface Triple {
        Edges.Ask of(int x, int y, int z);
    }

    private static void outsideTriple(String promise, Triple call) {
        outside(promise, "the first number", -9, 9, v -> call.of(v, 1, 1), Edges.OUTSIDE);
        outside(promise, "the second number", -9, 9, v -> call.of(1, v, 1), Edges.OUTSIDE);
        outside(promise, "the third number", -9, 9, v -> call.of(1, 1, v), Edges.OUTSIDE);
        Edges.edge(promise + ", OUTSIDE: all three are 0", () -> refused("all 0", call.of(0, 0, 0), Edges.OUTSIDE));
        Edges.edge(promise + ", OUTSIDE: two are 0, the third too large", () -> {
            refused("first", call.of(10, 0, 0), Edges.OUTSIDE);
            refused("second", call.of(0, -10, 0), Edges.OUTSIDE);
            refused("third", call.of(0, 0, 10), Edges.OUTSIDE);
        });
        Edges.edge(promise + ", not OUTSIDE: numbers -9 and 9, and two that are 0", () -> {
            int[][] allowed = {{-9, -9, -9}, {9, 9, 9}, {9, 0, 0}, {0, -9, 0}, {0, 0, 9}, {-1, 0, 0}, {0, 1, 0}, {0, 0, -1}};
            for (int[] t : allowed) {
                long told = call.of(t[0], t[1], t[2]).of(crowded(3));
                Edges.dueTrue(Arrays.toString(t) + " is not refused", told >= 0 || told == Edges.NONE);
            }
        });
    }

    /** What is numbered from 0 on, to as many as a SIZE has. */
    private static void noSuch(String promise, String number, int[] many, With call, long want) {
        edge(promise + ", UNKNOWN: " + number + " is too small", call, want, -1);
        Edges.edge(promise + ", UNKNOWN: " + number + " is too large by each SIZE", () -> {
            for (int size = 1; size <= 3; size++) refusedBy(size, "one too large", call.number(many[size]), want);
        });
        Edges.edge(promise + ", UNKNOWN: " + number + " is one of a greater SIZE alone", () -> {
            for (int size = 1; size < 3; size++) refusedBy(size, "greater SIZE", call.number(many[size + 1] - 1), want);
        });
        Edges.edge(promise + ", not UNKNOWN: " + number + " is the first or last by each SIZE", () -> {
            for (int size = 1; size <= 3; size++) {
                for (int v : new int[] {0, many[size] - 1}) {
                    long told = call.number(v).of(crowded(size));
                    Edges.dueTrue(v + " is not refused by SIZE " + size, told >= 0 || told == Edges.NONE);
                }
            }
        });
        edge(promise + ", UNKNOWN: " + number + " is far outside", call, want, FAR_OUT);
        edge(promise + ", UNKNOWN: " + number + " wraps around to none", call, want,
            -32, -256, -65536, 65536, 1 << 30);
    }

    private static int[] solutions() {
        int[] many = new int[4];
        for (int size = 1; size <= 3; size++) many[size] = 2 * Edges.PAIRS[size];
        return many;
    }

    private static void ahead(String promise, String what, Edges.Ask ask, long want) {
        Edges.edge(promise + ", in the order in which its line tells them: " + what, () -> refused(what, ask, want));
    }

    private static void stations() {
        String p = "Promise 2, station";
        edge(p + ", UNKNOWN: n is too small", n -> x -> x.station(n, 1, 2, 3), Edges.UNKNOWN, -1);
        edge(p + ", UNKNOWN: n is too large", n -> x -> x.station(n, 1, 2, 3), Edges.UNKNOWN, 24);
        edge(p + ", UNKNOWN: n is far outside", n -> x -> x.station(n, 1, 2, 3), Edges.UNKNOWN, FAR_OUT);
        edge(p + ", UNKNOWN: n wraps around to none", n -> x -> x.station(n, 1, 2, 3), Edges.UNKNOWN, ROUND);
        outsideTriple(p, (a, b, c) -> x -> x.station(0, a, b, c));
        Edges.edge(p + ", OUTSIDE: a STATION that was not there is not there then", () ->
            refused("station 1", x -> x.station(1, 0, 0, 0), Edges.OUTSIDE));
        ahead(p, "UNKNOWN, then OUTSIDE (all 0)", x -> x.station(24, 0, 0, 0), Edges.UNKNOWN);
        ahead(p, "UNKNOWN, then OUTSIDE (10)", x -> x.station(-1, 10, 10, 10), Edges.UNKNOWN);

        p = "Promise 3, sign";
        noStation(p, n -> x -> x.sign(n, 1));
        outside(p, "s", -1, 1, s -> x -> x.sign(0, s), Edges.OUTSIDE);
        ahead(p, "UNKNOWN, then OUTSIDE", x -> x.sign(1, 2), Edges.UNKNOWN);

        p = "Promise 4, weigh";
        noStation(p, n -> x -> x.weigh(n, 2));
        outside(p, "w", 1, 4, w -> x -> x.weigh(0, w), Edges.OUTSIDE);
        ahead(p, "UNKNOWN, then OUTSIDE", x -> x.weigh(1, 5), Edges.UNKNOWN);

        noStation("Promise 5, drop", n -> x -> x.drop(n));
        outside("Promise 6, turn", "how", 0, 3, how -> x -> x.turn(how), Edges.OUTSIDE);

        p = "Promise 7, ofStation";
        for (int i = 0; i < 7; i++) {
            int what = i;
            noStation(p + " " + what, n -> x -> x.ofStation(n, what));
        }
        outside(p, "what", 0, 6, what -> x -> x.ofStation(0, what), Edges.OUTSIDE);
        ahead(p, "UNKNOWN, then OUTSIDE", x -> x.ofStation(1, 7), Edges.UNKNOWN);
    }

    private static void polesAndSolutions() {
        outside("Promise 8, size", "v", 1, 3, v -> x -> x.size(v), Edges.OUTSIDE);
        outside("Promise 9, extra", "v", 0, 9, v -> x -> x.extra(v), Edges.OUTSIDE);

        String p = "Promise 10, pole";
        noSuch(p, "k", Edges.POLES, k -> x -> x.pole(k, 0), Edges.UNKNOWN);
        outside(p, "i", 0, 2, i -> x -> x.pole(0, i), Edges.OUTSIDE);
        ahead(p, "UNKNOWN, then OUTSIDE", x -> x.pole(-1, 3), Edges.UNKNOWN);

        outsideTriple("Promise 11, poleOf", (a, b, c) -> x -> x.poleOf(a, b, c));

        p = "Promise 12, pair";
        noSuch(p, "k", Edges.PAIRS, k -> x -> x.pair(k, 0), Edges.UNKNOWN);
        outside(p, "which", 0, 1, which -> x -> x.pair(0, which), Edges.OUTSIDE);
        ahead(p, "UNKNOWN, then OUTSIDE", x -> x.pair(-1, 2), Edges.UNKNOWN);

        p = "Promise 13, pairOf";
        noSuch(p, "a", Edges.POLES, a -> x -> x.pairOf(a, 0), Edges.UNKNOWN);
        noSuch(p, "b", Edges.POLES, b -> x -> x.pairOf(0, b), Edges.UNKNOWN);
        Edges.edge(p + ", UNKNOWN: both are none, though one and the same", () -> {
            refused("twice -1", x -> x.pairOf(-1, -1), Edges.UNKNOWN);
            refused("twice 145", x -> x.pairOf(145, 145), Edges.UNKNOWN);
        });

        p = "Promise 14, solution";
        for (int i = 0; i < 5; i++) {
            int what = i;
            noSuch(p + " " + what, "s", solutions(), s -> x -> x.solution(s, what), Edges.UNKNOWN);
        }
        outside(p, "what", 0, 4, what -> x -> x.solution(0, what), Edges.OUTSIDE);
        ahead(p, "UNKNOWN, then OUTSIDE", x -> x.solution(-1, 5), Edges.UNKNOWN);

        p = "Promise 15, signAt";
        noSuch(p, "s", solutions(), s -> x -> x.signAt(s, 1, 2, 3), Edges.UNKNOWN);
        outsideTriple(p, (a, b, c) -> x -> x.signAt(0, a, b, c));
        ahead(p, "UNKNOWN, then OUTSIDE (all 0)", x -> x.signAt(-1, 0, 0, 0), Edges.UNKNOWN);
        ahead(p, "UNKNOWN, then OUTSIDE (10)", x -> x.signAt(2000, 10, 1, 1), Edges.UNKNOWN);

        p = "Promise 16, kept";
        edge(p + ", UNKNOWN: k is too small", k -> x -> x.kept(k), Edges.UNKNOWN, -1);
        Edges.edge(p + ", UNKNOWN: there are not so many", () ->
            refused("one too large", x -> x.kept(x.many(3)), Edges.UNKNOWN));
        edge(p + ", UNKNOWN: k is far outside", k -> x -> x.kept(k), Edges.UNKNOWN, FAR_OUT);
        edge(p + ", UNKNOWN: k wraps around to none", k -> x -> x.kept(k), Edges.UNKNOWN, -32, -256, 65536, 1 << 30);
    }

    private static void axesAndWhatWouldBe() {
        String p = "Promise 17, axis";
        noSuch(p, "s", solutions(), s -> x -> x.axis(s, 0), Edges.UNKNOWN);
        outside(p, "i", 0, 2, i -> x -> x.axis(0, i), Edges.OUTSIDE);
        ahead(p, "UNKNOWN, then OUTSIDE", x -> x.axis(-1, 3), Edges.UNKNOWN);

        p = "Promise 18, apart (LOST)";
        noSuch(p, "s", solutions(), s -> x -> x.apart(s, 0, 0), Edges.LOST);
        noSuch(p, "t", solutions(), t -> x -> x.apart(0, t, 1), Edges.LOST);
        outside(p, "which", 0, 1, which -> x -> x.apart(0, 2, which), Edges.LOST);
        ahead(p, "both are LOST", x -> x.apart(-1, -1, 2), Edges.LOST);
        outside("Promise 19, spread (LOST)", "which", 0, 1, which -> x -> x.spread(which), Edges.LOST);

        p = "Promise 21, without";
        for (int i = 0; i < 2; i++) {
            int what = i;
            noStation(p + " " + what, n -> x -> x.without(n, what));
        }
        outside(p, "what", 0, 1, what -> x -> x.without(0, what), Edges.OUTSIDE);
        ahead(p, "UNKNOWN, then OUTSIDE", x -> x.without(1, 2), Edges.UNKNOWN);

        p = "Promise 22, turned";
        for (int i = 0; i < 2; i++) {
            int what = i;
            noStation(p + " " + what, n -> x -> x.turned(n, what));
            Edges.edge(p + " " + what + ", STATE: its SIGN is 0", () ->
                refused("SIGN 0", x -> x.turned(23, what), Edges.STATE));
        }
        outside(p, "what", 0, 1, what -> x -> x.turned(0, what), Edges.OUTSIDE);
        ahead(p, "UNKNOWN, then OUTSIDE", x -> x.turned(1, 2), Edges.UNKNOWN);
        ahead(p, "UNKNOWN, then OUTSIDE, of one that had a SIGN", x -> x.turned(5, -1), Edges.UNKNOWN);
        ahead(p, "OUTSIDE, then STATE (too large)", x -> x.turned(23, 2), Edges.OUTSIDE);
        ahead(p, "OUTSIDE, then STATE (too small)", x -> x.turned(23, -1), Edges.OUTSIDE);
        Edges.edge(p + ", STATE: its SIGN became 0, or is one again", () -> {
            SquarePlanes x = crowded(1);
            x.sign(0, 0);
            Edges.due("SIGN 0", x.turned(0, 0), Edges.STATE);
            x.sign(0, -1);
            // Up at STEEP, down or NODAL at (0, 0, 5): SOLUTION 0 has the plane that (0, 0, 5) lies on.
            Edges.due("SIGN -1", x.turned(0, 0), 0);
            x.station(0, 9, 3, 1);
            Edges.due("a new one in its place", x.turned(0, 1), Edges.STATE);
        });

        p = "Promise 23, foretold";
        outsideTriple(p, (a, b, c) -> x -> x.foretold(a, b, c, 1));
        outside(p, "s", -1, 1, s -> x -> x.foretold(1, 2, 3, s), Edges.OUTSIDE);
        Edges.edge(p + ", OUTSIDE: both the triple and s", () ->
            refused("both", x -> x.foretold(0, 0, 0, 2), Edges.OUTSIDE));

        outside("Promise 24, many", "what", 0, 9, what -> x -> x.many(what), Edges.OUTSIDE);
    }

    /** Every mix of edge numbers in a call of four: what is refused, and as what. */
    private static void mixes() {
        int[] triples = {Integer.MIN_VALUE, -10, -9, 0, 9, 10, Integer.MAX_VALUE};
        int[] firsts = {Integer.MIN_VALUE, -1, 0, 23, 24, Integer.MAX_VALUE};
        Edges.edge("Promise 2, station: every mix of edge numbers", () -> eachMix(firsts, triples, (x, v) -> {
            boolean known = v[0] == 0 || v[0] == 23;
            int want = !known ? Edges.UNKNOWN : isTriple(v) ? x.ofStation(v[0], 0) == Edges.UNKNOWN ? 0 : 1 : Edges.OUTSIDE;
            Edges.due("station" + Arrays.toString(v), x.station(v[0], v[1], v[2], v[3]), want);
        }));
        int[] solutions = {Integer.MIN_VALUE, -1, 0, 275, 276, Integer.MAX_VALUE};
        Edges.edge("Promise 15, signAt: every mix of edge numbers", () -> eachMix(solutions, triples, (x, v) -> {
            boolean known = v[0] == 0 || v[0] == 275;
            long told = x.signAt(v[0], v[1], v[2], v[3]);
            if (!known) Edges.due("signAt" + Arrays.toString(v), told, Edges.UNKNOWN);
            else if (!isTriple(v)) Edges.due("signAt" + Arrays.toString(v), told, Edges.OUTSIDE);
            else Edges.dueTrue("signAt" + Arrays.toString(v) + " is 0 .. 2", told >= 0 && told <= 2);
        }));
        int[] signs = {Integer.MIN_VALUE, -2, -1, 0, 1, 2, Integer.MAX_VALUE};
        Edges.edge("Promise 23, foretold: every mix of edge numbers", () -> eachMix(signs, triples, (x, v) -> {
            boolean allowed = v[0] >= -1 && v[0] <= 1 && isTriple(v);
            long told = x.foretold(v[1], v[2], v[3], v[0]);
            if (!allowed) Edges.due("foretold" + Arrays.toString(v), told, Edges.OUTSIDE);
            else Edges.dueTrue("foretold" + Arrays.toString(v) + " is a count", told >= 0 && told <= 276);
        }));
    }

    private interface Mixed {
        void ask(SquarePlanes x, int[] v);
    }

    private static void eachMix(int[] firsts, int[] triples, Mixed call) {
        for (int first : firsts) {
            for (int a : triples) {
                SquarePlanes x = new SquarePlanes();
                for (int b : triples) for (int c : triples) call.ask(x, new int[] {first, a, b, c});
            }
        }
    }

    private static boolean isTriple(int[] v) {
        boolean small = true;
        for (int i = 1; i < 4; i++) small = small && v[i] >= -9 && v[i] <= 9;
        return small && !(v[1] == 0 && v[2] == 0 && v[3] == 0);
    }

    public static void main(String[] args) {
        stations();
        polesAndSolutions();
        axesAndWhatWouldBe();
        mixes();
        Edges.end();
    }
}
