/** What the tests of single sentences share: each has a name, is run alone, and is told if it fails. */
final class Edges {
    static final int UNKNOWN = -1, OUTSIDE = -2, STATE = -3, NONE = -9;
    static final long LOST = Long.MIN_VALUE;
    /** At this DIRECTION the dot with every POLE of SIZE 1 and 2 is above 0, so SENSE alone tells the SIGN. */
    static final int[] STEEP = {9, 3, 1};
    static final int[] POLES = {0, 13, 49, 145};
    static final int[] PAIRS = {0, 24, 138, 546};

    interface Test {
        void run();
    }

    interface Ask {
        long of(SquarePlanes x);
    }

    private static String name = "";
    private static int ran = 0;
    private static int broken = 0;
    private static boolean holds = true;

    private Edges() { }

    /** One sentence of the document: a test that fails or throws is told, and the next ones still run. */
    static void edge(String sentence, Test test) {
        name = sentence;
        holds = true;
        ran++;
        try {
            test.run();
        } catch (RuntimeException | Error e) {
            tell("threw " + e);
        }
        if (!holds) broken++;
    }

    private static void tell(String text) {
        holds = false;
        System.out.println(name + ": " + text);
    }

    static void due(String call, long got, long want) {
        if (got != want) tell(call + " answered " + got + ", due is " + want);
    }

    static void dueTrue(String what, boolean is) {
        if (!is) tell("it is not so that " + what);
    }

    static void put(SquarePlanes x, int n, int[] d, int sign, int weight) {
        x.station(n, d[0], d[1], d[2]);
        x.sign(n, sign);
        x.weigh(n, weight);
    }

    static SquarePlanes ofSize(int v) {
        SquarePlanes x = new SquarePlanes();
        x.size(v);
        return x;
    }

    /** STATIONS 0, 1, .. of rows {x, y, z, SIGN, WEIGHT} at a SIZE. */
    static SquarePlanes withStations(int size, int[]... rows) {
        SquarePlanes x = ofSize(size);
        for (int n = 0; n < rows.length; n++) put(x, n, rows[n], rows[n][3], rows[n][4]);
        return x;
    }

    /** All 24 STATIONS at one DIRECTION with WEIGHT 4, the first ones up and the others down. */
    static SquarePlanes full(int size, int[] d, int up) {
        SquarePlanes x = ofSize(size);
        for (int n = 0; n < 24; n++) put(x, n, d, n < up ? 1 : -1, 4);
        return x;
    }

    static int divisor(int a, int b) {
        return b == 0 ? Math.abs(a) : divisor(b, a % b);
    }

    static int dot(int[] a, int[] b) {
        return a[0] * b[0] + a[1] * b[1] + a[2] * b[2];
    }

    static void end() {
        System.out.println((ran - broken) + " of " + ran + " sentences hold");
        if (broken != 0 || ran == 0) System.exit(1);
    }
}
