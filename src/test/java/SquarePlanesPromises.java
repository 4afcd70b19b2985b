import java.lang.reflect.Constructor;
import java.lang.reflect.Field;
import java.lang.reflect.Member;
import java.lang.reflect.Method;
import java.lang.reflect.Modifier;
import java.util.Arrays;
import java.util.Set;
import java.util.TreeSet;

/** Each promise by itself: answers worked out by hand from the document, or held against other calls. */
public final class SquarePlanesPromises {
    private static final int[] FAR_OUT = {Integer.MIN_VALUE, Integer.MAX_VALUE};
    private static int wrong = 0;

    private static void due(String told, long got, long want) {
        if (got != want) {
            wrong++;
            System.out.println(told + ": answered " + got + ", due is " + want);
        }
    }

    /** A STATION with a SIGN and a WEIGHT, whose setting is not what is tested. */
    private static void put(SquarePlanes x, int n, int[] d, int sign, int weight) {
        x.station(n, d[0], d[1], d[2]);
        x.sign(n, sign);
        x.weigh(n, weight);
    }

    /** Four STATIONS in the quarters of the level plane, up and down by turns, at SIZE 1. */
    private static SquarePlanes quarters() {
        SquarePlanes x = new SquarePlanes();
        x.size(1);
        put(x, 0, new int[] {3, 2, 0}, 1, 1);
        put(x, 1, new int[] {-3, 2, 0}, -1, 2);
        put(x, 2, new int[] {-3, -2, 0}, 1, 3);
        put(x, 3, new int[] {3, -2, 0}, -1, 4);
        return x;
    }

    private static void promise1NewObject() {
        SquarePlanes x = new SquarePlanes();
        due("1 no STATIONS", x.many(0), 0);
        for (int n = -1; n <= 24; n++) due("1 STATION " + n, x.ofStation(n, 0), SquarePlanes.UNKNOWN);
        due("1 no WEIGHTS", x.many(9), 0);
        due("1 LEAST", x.many(4), 0);
        due("1 SIZE", x.size(2), 2);
        due("1 EXTRA", x.extra(0), 0);
        SquarePlanes y = new SquarePlanes();
        x.station(0, 1, 0, 0);
        x.size(3);
        due("1 objects are apart", y.many(0), 0);
        due("1 objects' SIZES are apart", y.size(2), 2);
    }

    private static void promise2Station() {
        SquarePlanes x = new SquarePlanes();
        due("2 new", x.station(0, 9, -9, 0), 0);
        due("2 last", x.station(23, 0, 0, 1), 0);
        put(x, 0, new int[] {1, 2, 3}, -1, 4);
        due("2 in place of another", x.station(0, -4, 5, -6), 1);
        due("2 x", x.ofStation(0, 0), 6);
        due("2 y", x.ofStation(0, 1), 15);
        due("2 z", x.ofStation(0, 2), 4);
        due("2 SIGN anew", x.ofStation(0, 3), 1);
        due("2 WEIGHT anew", x.ofStation(0, 4), 1);
        due("2 n low", x.station(-1, 1, 0, 0), SquarePlanes.UNKNOWN);
        due("2 n high", x.station(24, 1, 0, 0), SquarePlanes.UNKNOWN);
        due("2 n ahead of triple", x.station(24, 0, 0, 0), SquarePlanes.UNKNOWN);
        due("2 all 0", x.station(0, 0, 0, 0), SquarePlanes.OUTSIDE);
        due("2 x high", x.station(0, 10, 0, 0), SquarePlanes.OUTSIDE);
        due("2 y low", x.station(0, 0, -10, 0), SquarePlanes.OUTSIDE);
        for (int far : FAR_OUT) {
            due("2 far n", x.station(far, 1, 0, 0), SquarePlanes.UNKNOWN);
            due("2 far x", x.station(0, far, 1, 1), SquarePlanes.OUTSIDE);
            due("2 far y", x.station(0, 1, far, 1), SquarePlanes.OUTSIDE);
            due("2 far z", x.station(0, 1, 1, far), SquarePlanes.OUTSIDE);
        }
        due("2 refusals change nothing", x.ofStation(0, 0), 6);
        due("2 count", x.many(0), 2);
        SquarePlanes y = quarters();
        due("2 MISFIT ahead", y.solution(9, 0), 10);
        y.station(3, 3, -2, 0);
        due("2 MISFIT behind", y.solution(9, 0), 6);
    }

    private static void promise3Sign() {
        SquarePlanes x = new SquarePlanes();
        due("3 not there", x.sign(5, 1), SquarePlanes.UNKNOWN);
        x.station(5, 1, 0, 0);
        due("3 was none", x.sign(5, 1), 1);
        due("3 was up", x.sign(5, -1), 2);
        due("3 was down", x.sign(5, 0), 0);
        due("3 was none again", x.sign(5, -1), 1);
        due("3 high", x.sign(5, 2), SquarePlanes.OUTSIDE);
        due("3 low", x.sign(5, -2), SquarePlanes.OUTSIDE);
        due("3 UNKNOWN first", x.sign(6, 2), SquarePlanes.UNKNOWN);
        for (int far : FAR_OUT) {
            due("3 far n", x.sign(far, 1), SquarePlanes.UNKNOWN);
            due("3 far s", x.sign(5, far), SquarePlanes.OUTSIDE);
        }
        due("3 refusals change nothing", x.ofStation(5, 3), 0);
    }

    private static void promise4Weigh() {
        SquarePlanes x = new SquarePlanes();
        due("4 not there", x.weigh(5, 1), SquarePlanes.UNKNOWN);
        x.station(5, 1, 0, 0);
        due("4 was 1", x.weigh(5, 4), 1);
        due("4 was 4", x.weigh(5, 2), 4);
        due("4 low", x.weigh(5, 0), SquarePlanes.OUTSIDE);
        due("4 high", x.weigh(5, 5), SquarePlanes.OUTSIDE);
        due("4 UNKNOWN first", x.weigh(24, 5), SquarePlanes.UNKNOWN);
        for (int far : FAR_OUT) {
            due("4 far n", x.weigh(far, 1), SquarePlanes.UNKNOWN);
            due("4 far w", x.weigh(5, far), SquarePlanes.OUTSIDE);
        }
        due("4 refusals change nothing", x.ofStation(5, 4), 2);
        due("4 back to 1", x.weigh(5, 1), 2);
        SquarePlanes y = quarters();
        due("4 MISFIT ahead", y.solution(9, 0), 10);
        y.weigh(0, 4);
        due("4 MISFIT behind", y.solution(9, 0), 13);
    }

    private static void promise5Drop() {
        SquarePlanes x = quarters();
        due("5 of four", x.drop(1), 3);
        due("5 no more there", x.drop(1), SquarePlanes.UNKNOWN);
        due("5 no more told", x.ofStation(1, 4), SquarePlanes.UNKNOWN);
        due("5 no more weighed", x.many(9), 8);
        due("5 new in its place", x.station(1, 1, 1, 1), 0);
        due("5 without the old SIGN", x.ofStation(1, 3), 1);
        for (int n : new int[] {-1, 24, Integer.MIN_VALUE, Integer.MAX_VALUE}) {
            due("5 n " + n, x.drop(n), SquarePlanes.UNKNOWN);
        }
        x.drop(0);
        x.drop(1);
        x.drop(2);
        due("5 the last", x.drop(3), 0);
    }

    private static void dueDirection(String told, SquarePlanes x, int n, int... want) {
        for (int i = 0; i < 3; i++) due(told + ", number " + i, x.ofStation(n, i), want[i] + 10);
    }

    private static void promise6Turn() {
        int[][] becomes = {{1, -3, 2}, {3, 2, -1}, {-2, 1, 3}, {1, 2, -3}};
        for (int how = 0; how < 4; how++) {
            SquarePlanes x = new SquarePlanes();
            put(x, 7, new int[] {1, 2, 3}, -1, 3);
            due("6 TURN " + how, x.turn(how), 1);
            dueDirection("6 TURN " + how, x, 7, becomes[how]);
            due("6 SIGN stays", x.ofStation(7, 3), 0);
            due("6 WEIGHT stays", x.ofStation(7, 4), 3);
        }
        SquarePlanes x = new SquarePlanes();
        due("6 no STATIONS", x.turn(0), 0);
        x.station(0, 5, 0, 0);
        x.station(1, 0, 5, 0);
        x.station(2, 0, 0, 5);
        due("6 about x", x.turn(0), 2);
        dueDirection("6 y goes to z", x, 1, 0, 0, 5);
        due("6 about y", x.turn(1), 2);
        dueDirection("6 z goes to x", x, 1, 5, 0, 0);
        due("6 about z", x.turn(2), 2);
        dueDirection("6 x goes to y", x, 1, 0, 5, 0);
        due("6 low", x.turn(-1), SquarePlanes.OUTSIDE);
        due("6 high", x.turn(4), SquarePlanes.OUTSIDE);
        for (int far : FAR_OUT) due("6 far", x.turn(far), SquarePlanes.OUTSIDE);
        SquarePlanes y = new SquarePlanes();
        y.station(0, 4, 1, 0);
        y.station(1, 4, 1, 2);
        due("6 the mirror leaves level ones", y.turn(3), 1);
        y.drop(1);
        due("6 one that was dropped is not turned", y.turn(3), 0);
        SquarePlanes q = quarters();
        due("6 MISFIT ahead", q.solution(9, 0), 10);
        due("6 a quarter about z", q.turn(2), 4);
        due("6 MISFIT behind", q.solution(9, 0), 0);
        due("6 MISFIT behind, SENSE 1", q.solution(8, 0), 10);
    }

    private static void promise7OfStation() {
        SquarePlanes x = quarters();
        due("7 x", x.ofStation(1, 0), 7);
        due("7 y", x.ofStation(1, 1), 12);
        due("7 z", x.ofStation(1, 2), 10);
        due("7 SIGN", x.ofStation(1, 3), 0);
        due("7 WEIGHT", x.ofStation(1, 4), 2);
        // KEPT with nothing against: all that are 0 or right at each of the four.
        due("7 AGAINST", x.ofStation(1, 5), countOf(x, 1, -1));
        due("7 NODAL", x.ofStation(1, 6), countOf(x, 1, 0));
        due("7 NODAL ones are there", x.ofStation(1, 6) > 0 ? 1 : 0, 1);
        x.extra(9);
        due("7 AGAINST, EXTRA 9", x.ofStation(1, 5), countOf(x, 1, -1));
        due("7 AGAINST ones are there", x.ofStation(1, 5) > 0 ? 1 : 0, 1);
        x.sign(1, 0);
        due("7 without SIGN not AGAINST", x.ofStation(1, 5), 0);
        due("7 without SIGN not NODAL", x.ofStation(1, 6), 0);
        due("7 low", x.ofStation(1, -1), SquarePlanes.OUTSIDE);
        due("7 high", x.ofStation(1, 7), SquarePlanes.OUTSIDE);
        due("7 UNKNOWN first", x.ofStation(4, 7), SquarePlanes.UNKNOWN);
        for (int far : FAR_OUT) {
            due("7 far n", x.ofStation(far, 0), SquarePlanes.UNKNOWN);
            due("7 far what", x.ofStation(1, far), SquarePlanes.OUTSIDE);
        }
    }

    /** KEPT ones whose SIGN at a STATION's DIRECTION is its own SIGN times a number. */
    private static int countOf(SquarePlanes x, int n, int times) {
        int found = 0;
        int sign = x.ofStation(n, 3) - 1;
        for (int k = 0; x.kept(k) != SquarePlanes.UNKNOWN; k++) {
            int told = x.signAt(x.kept(k), x.ofStation(n, 0) - 10, x.ofStation(n, 1) - 10, x.ofStation(n, 2) - 10);
            if (told - 1 == sign * times) found++;
        }
        return found;
    }

    private static void promise8Size() {
        SquarePlanes x = new SquarePlanes();
        int[] poles = {0, 13, 49, 145};
        int[] pairs = {0, 24, 138, 546};
        int before = 2;
        for (int v : new int[] {1, 3, 2, 3, 1, 1}) {
            due("8 SIZE was", x.size(v), before);
            due("8 POLES of SIZE " + v, x.many(1), poles[v]);
            due("8 PAIRS of SIZE " + v, x.many(2), pairs[v]);
            due("8 KEPT of SIZE " + v, x.many(3), 2 * pairs[v]);
            due("8 last PAIR of SIZE " + v, x.pair(pairs[v], 0), SquarePlanes.UNKNOWN);
            before = v;
        }
        for (int v : new int[] {0, 4, -1, Integer.MIN_VALUE, Integer.MAX_VALUE}) {
            due("8 SIZE " + v, x.size(v), SquarePlanes.OUTSIDE);
        }
        due("8 refusals change nothing", x.many(1), 13);
        // What was found by one SIZE must not stand for another, though STATIONS change between.
        SquarePlanes y = oneKept();
        due("8 LEAST at first", y.many(4), 0);
        y.size(2);
        y.many(4);
        put(y, 23, new int[] {7, 1, 9}, -1, 3);
        y.size(1);
        due("8 LEAST later", y.many(4), 3);
    }

    private static void promise9Extra() {
        SquarePlanes x = quarters();
        due("9 was 0", x.extra(9), 0);
        int all = 0;
        for (int s = 0; s < 48; s++) if (x.solution(s, 0) <= 9) all++;
        due("9 KEPT by 9", x.many(3), all);
        due("9 was 9", x.extra(1), 9);
        int few = 0;
        for (int s = 0; s < 48; s++) if (x.solution(s, 0) <= 1) few++;
        due("9 KEPT by 1", x.many(3), few);
        for (int v : new int[] {-1, 10, Integer.MIN_VALUE, Integer.MAX_VALUE}) {
            due("9 EXTRA " + v, x.extra(v), SquarePlanes.OUTSIDE);
        }
        due("9 refusals change nothing", x.extra(0), 1);
    }

    private static final int[][] FIRST_POLES = {
        {0, 0, 1}, {0, 1, 0}, {1, 0, 0}, {0, 1, -1}, {0, 1, 1}, {1, -1, 0}, {1, 0, -1}, {1, 0, 1}, {1, 1, 0},
        {1, -1, -1}, {1, -1, 1}, {1, 1, -1}, {1, 1, 1}, {0, 1, -2}, {0, 1, 2}, {0, 2, -1}, {0, 2, 1}, {1, -2, 0}};

    private static void promise10Pole() {
        SquarePlanes x = new SquarePlanes();
        for (int k = 0; k < FIRST_POLES.length; k++) {
            for (int i = 0; i < 3; i++) due("10 POLE " + k, x.pole(k, i), FIRST_POLES[k][i] + 10);
        }
        due("10 last of SIZE 2", x.pole(48, 0) * 10000 + x.pole(48, 1) * 100 + x.pole(48, 2), 121211);
        due("10 high k", x.pole(49, 0), SquarePlanes.UNKNOWN);
        due("10 low i", x.pole(0, -1), SquarePlanes.OUTSIDE);
        due("10 high i", x.pole(0, 3), SquarePlanes.OUTSIDE);
        due("10 UNKNOWN first", x.pole(-1, 3), SquarePlanes.UNKNOWN);
        for (int far : FAR_OUT) {
            due("10 far k", x.pole(far, 0), SquarePlanes.UNKNOWN);
            due("10 far i", x.pole(0, far), SquarePlanes.OUTSIDE);
        }
        x.size(1);
        due("10 SIZE 1 has fewer", x.pole(13, 0), SquarePlanes.UNKNOWN);
        x.size(3);
        due("10 first of 3", x.pole(49, 0) * 10000 + x.pole(49, 1) * 100 + x.pole(49, 2), 101107);
        due("10 last of SIZE 3", x.pole(144, 0) * 10000 + x.pole(144, 1) * 100 + x.pole(144, 2), 131312);
        due("10 no more of SIZE 3", x.pole(145, 0), SquarePlanes.UNKNOWN);
    }

    private static void promise11PoleOf() {
        SquarePlanes x = new SquarePlanes();
        for (int k = 0; k < FIRST_POLES.length; k++) {
            int[] p = FIRST_POLES[k];
            due("11 POLE " + k, x.poleOf(p[0], p[1], p[2]), k);
            due("11 POLE " + k + " the other way", x.poleOf(-p[0], -p[1], -p[2]), k);
            due("11 POLE " + k + " by 4", x.poleOf(-4 * p[0], -4 * p[1], -4 * p[2]), k);
        }
        due("11 too great", x.poleOf(3, 0, 1), SquarePlanes.NONE);
        due("11 in common", x.poleOf(9, 9, -9), 11);
        due("11 in common, too great", x.poleOf(9, 9, -6), SquarePlanes.NONE);
        x.size(3);
        due("11 great enough", x.poleOf(0, 9, -3), x.poleOf(0, 3, -1));
        due("11 of SIZE 3", x.poleOf(0, 1, -3), 49);
        x.size(1);
        due("11 SIZE 1", x.poleOf(1, 2, 0), SquarePlanes.NONE);
        due("11 all 0", x.poleOf(0, 0, 0), SquarePlanes.OUTSIDE);
        due("11 high", x.poleOf(1, 10, 0), SquarePlanes.OUTSIDE);
        due("11 low", x.poleOf(1, 0, -10), SquarePlanes.OUTSIDE);
        for (int far : FAR_OUT) {
            due("11 far p", x.poleOf(far, 1, 1), SquarePlanes.OUTSIDE);
            due("11 far q", x.poleOf(1, far, 1), SquarePlanes.OUTSIDE);
            due("11 far r", x.poleOf(1, 1, far), SquarePlanes.OUTSIDE);
        }
    }

    private static final int[][] PAIRS_OF_SIZE_1 = {
        {0, 1}, {0, 2}, {0, 5}, {0, 8}, {1, 2}, {1, 6}, {1, 7}, {2, 3}, {2, 4}, {3, 4}, {3, 9}, {3, 12},
        {4, 10}, {4, 11}, {5, 8}, {5, 11}, {5, 12}, {6, 7}, {6, 10}, {6, 12}, {7, 9}, {7, 11}, {8, 9}, {8, 10}};

    private static void promise12Pair() {
        SquarePlanes x = new SquarePlanes();
        x.size(1);
        for (int k = 0; k < 24; k++) {
            due("12 PAIR " + k, x.pair(k, 0), PAIRS_OF_SIZE_1[k][0]);
            due("12 PAIR " + k, x.pair(k, 1), PAIRS_OF_SIZE_1[k][1]);
        }
        due("12 high k", x.pair(24, 0), SquarePlanes.UNKNOWN);
        due("12 low which", x.pair(0, -1), SquarePlanes.OUTSIDE);
        due("12 high which", x.pair(0, 2), SquarePlanes.OUTSIDE);
        due("12 UNKNOWN first", x.pair(-1, 2), SquarePlanes.UNKNOWN);
        for (int far : FAR_OUT) {
            due("12 far k", x.pair(far, 0), SquarePlanes.UNKNOWN);
            due("12 far which", x.pair(0, far), SquarePlanes.OUTSIDE);
        }
        x.size(2);
        due("12 numbers change with SIZE", x.pair(4, 0) * 100 + x.pair(4, 1), 17);
    }

    private static void promise13PairOf() {
        SquarePlanes x = new SquarePlanes();
        x.size(1);
        for (int k = 0; k < 24; k++) {
            int[] p = PAIRS_OF_SIZE_1[k];
            due("13 PAIR " + k, x.pairOf(p[0], p[1]), k);
            due("13 PAIR " + k + " in the other order", x.pairOf(p[1], p[0]), k);
        }
        due("13 not square", x.pairOf(0, 3), SquarePlanes.NONE);
        due("13 with itself", x.pairOf(0, 0), SquarePlanes.NONE);
        due("13 high b", x.pairOf(0, 13), SquarePlanes.UNKNOWN);
        due("13 high a", x.pairOf(13, 0), SquarePlanes.UNKNOWN);
        due("13 low a", x.pairOf(-1, 0), SquarePlanes.UNKNOWN);
        for (int far : FAR_OUT) {
            due("13 far a", x.pairOf(far, 0), SquarePlanes.UNKNOWN);
            due("13 far b", x.pairOf(0, far), SquarePlanes.UNKNOWN);
        }
        x.size(2);
        due("13 more by SIZE 2", x.pairOf(17, 0), 4);
    }

    private static void promise14Solution() {
        SquarePlanes x = quarters();
        // PAIR 4 parts by x and y, as the STATIONS do.
        due("14 all fit", x.solution(8, 0), 0);
        due("14 none NODAL", x.solution(8, 1), 0);
        due("14 none AGAINST", x.solution(8, 2), 0);
        due("14 it SLIDES", x.solution(8, 3), 1);
        due("14 is the first", x.solution(8, 4), 0);
        due("14 none fit", x.solution(9, 0), 10);
        due("14 four AGAINST", x.solution(9, 2), 4);
        due("14 not KEPT", x.solution(9, 4), SquarePlanes.NONE);
        // PAIR 0 has the POLE (0, 0, 1), on whose plane all four lie.
        due("14 all NODAL", x.solution(0, 1), 10);
        due("14 NODAL are not AGAINST", x.solution(0, 2), 0);
        due("14 NODAL weigh nothing", x.solution(0, 0), 0);
        // PAIR 14 parts by x - y and x + y: all four have the greater x, either way, and are up.
        due("14 PAIR 14", x.solution(28, 0), 2 + 4);
        due("14 PAIR 14, two AGAINST", x.solution(28, 2), 2);
        due("14 PAIR 14, SENSE -1", x.solution(29, 0), 1 + 3);
        // PAIR 17 has POLES (1, 0, -1), (1, 0, 1): straight up it is -1, by SENSE -1 it is 1.
        due("14 it SINKS", x.solution(34, 3), 0);
        due("14 it LIFTS", x.solution(35, 3), 2);
        x.sign(0, 0);
        due("14 without SIGN not AGAINST", x.solution(9, 0), 9);
        due("14 without SIGN not NODAL", x.solution(0, 1), 9);
        due("14 high s", x.solution(48, 0), SquarePlanes.UNKNOWN);
        due("14 low what", x.solution(0, -1), SquarePlanes.OUTSIDE);
        due("14 high what", x.solution(0, 5), SquarePlanes.OUTSIDE);
        due("14 UNKNOWN first", x.solution(-1, 5), SquarePlanes.UNKNOWN);
        for (int far : FAR_OUT) {
            due("14 far s", x.solution(far, 0), SquarePlanes.UNKNOWN);
            due("14 far what", x.solution(0, far), SquarePlanes.OUTSIDE);
        }
    }

    private static void promise15SignAt() {
        SquarePlanes x = new SquarePlanes();
        x.size(1);
        due("15 up", x.signAt(8, 9, 1, -9), 2);
        due("15 up, behind", x.signAt(8, -9, -1, 9), 2);
        due("15 down", x.signAt(8, 9, -1, 0), 0);
        due("15 neither", x.signAt(8, 0, 5, 5), 1);
        due("15 SENSE -1", x.signAt(9, 9, 1, 0), 0);
        due("15 SENSE -1, neither", x.signAt(9, 9, 0, 0), 1);
        due("15 all 0", x.signAt(8, 0, 0, 0), SquarePlanes.OUTSIDE);
        due("15 high", x.signAt(8, 10, 0, 0), SquarePlanes.OUTSIDE);
        due("15 low", x.signAt(8, 0, 0, -10), SquarePlanes.OUTSIDE);
        due("15 high s", x.signAt(48, 1, 1, 1), SquarePlanes.UNKNOWN);
        due("15 UNKNOWN first", x.signAt(-1, 0, 0, 0), SquarePlanes.UNKNOWN);
        for (int far : FAR_OUT) {
            due("15 far s", x.signAt(far, 1, 1, 1), SquarePlanes.UNKNOWN);
            due("15 far x", x.signAt(8, far, 1, 1), SquarePlanes.OUTSIDE);
            due("15 far y", x.signAt(8, 1, far, 1), SquarePlanes.OUTSIDE);
            due("15 far z", x.signAt(8, 1, 1, far), SquarePlanes.OUTSIDE);
        }
    }

    private static void promise16Kept() {
        SquarePlanes x = new SquarePlanes();
        x.size(1);
        for (int k = 0; k < 48; k++) due("16 without STATIONS by number", x.kept(k), k);
        due("16 not so many", x.kept(48), SquarePlanes.UNKNOWN);
        due("16 low", x.kept(-1), SquarePlanes.UNKNOWN);
        for (int far : FAR_OUT) due("16 far", x.kept(far), SquarePlanes.UNKNOWN);
        SquarePlanes y = quarters();
        due("16 the one without NODAL ones first", y.kept(0), 8);
        y.extra(9);
        for (int k = 0; y.kept(k + 1) != SquarePlanes.UNKNOWN; k++) {
            int s = y.kept(k), t = y.kept(k + 1);
            long here = (y.solution(s, 0) * 1000L + y.solution(s, 1)) * 1000L + s;
            long then = (y.solution(t, 0) * 1000L + y.solution(t, 1)) * 1000L + t;
            due("16 in order", here < then ? 1 : 0, 1);
            due("16 place", y.solution(s, 4), k);
        }
    }

    private static void promise17Axis() {
        SquarePlanes x = new SquarePlanes();
        x.size(1);
        // PAIR 0: (0,0,1) by (0,1,0) is (-1,0,0), told the other way.
        dueAxis(x, 0, 1, 0, 0);
        dueAxis(x, 1, 1, 0, 0);
        // PAIR 4: (0,1,0) by (1,0,0) is (0,0,-1).
        dueAxis(x, 8, 0, 0, 1);
        // PAIR 14: (1,-1,0) by (1,1,0) is (0,0,2), divided by 2.
        dueAxis(x, 28, 0, 0, 1);
        // PAIR 10: (0,1,-1) by (1,-1,-1) is (-2,-1,-1).
        dueAxis(x, 20, 2, 1, 1);
        // PAIR 20: (1,0,1) by (1,-1,-1) is (1,2,-1).
        dueAxis(x, 41, 1, 2, -1);
        due("17 high s", x.axis(48, 0), SquarePlanes.UNKNOWN);
        due("17 low i", x.axis(0, -1), SquarePlanes.OUTSIDE);
        due("17 high i", x.axis(0, 3), SquarePlanes.OUTSIDE);
        due("17 UNKNOWN first", x.axis(-1, 3), SquarePlanes.UNKNOWN);
        for (int far : FAR_OUT) {
            due("17 far s", x.axis(far, 0), SquarePlanes.UNKNOWN);
            due("17 far i", x.axis(0, far), SquarePlanes.OUTSIDE);
        }
    }

    private static void dueAxis(SquarePlanes x, int s, int... want) {
        for (int i = 0; i < 3; i++) due("17 AXIS of " + s, x.axis(s, i), want[i] + 100);
    }

    private static void promise18Apart() {
        SquarePlanes x = new SquarePlanes();
        x.size(1);
        due("18 alike", x.apart(0, 1, 0), 0);
        due("18 alike, lower", x.apart(0, 1, 1), 1);
        due("18 square", x.apart(0, 8, 0), 1);
        due("18 square, lower", x.apart(0, 8, 1), 1);
        // (2,1,1) and (1,2,-1): dot 3, 1 - 9 by 36 is 3 by 4.
        due("18 slant", x.apart(20, 41, 0), 3);
        due("18 slant, lower", x.apart(20, 41, 1), 4);
        due("18 in the other order", x.apart(41, 20, 0), 3);
        // (1,0,0) and (2,1,1): 1 - 4 by 6.
        due("18 thirds", x.apart(0, 20, 0), 1);
        due("18 thirds, lower", x.apart(0, 20, 1), 3);
        due("18 high s", x.apart(48, 0, 0), SquarePlanes.LOST);
        due("18 high t", x.apart(0, 48, 0), SquarePlanes.LOST);
        due("18 low", x.apart(-1, 0, 0), SquarePlanes.LOST);
        due("18 low which", x.apart(0, 0, -1), SquarePlanes.LOST);
        due("18 high which", x.apart(0, 0, 2), SquarePlanes.LOST);
        for (int far : FAR_OUT) {
            due("18 far s", x.apart(far, 0, 0), SquarePlanes.LOST);
            due("18 far t", x.apart(0, far, 0), SquarePlanes.LOST);
            due("18 far which", x.apart(0, 0, far), SquarePlanes.LOST);
        }
    }

    /** Three STATIONS for each way of parting by x and y, none on a plane of SIZE 1: one is KEPT. */
    private static SquarePlanes oneKept() {
        SquarePlanes x = new SquarePlanes();
        x.size(1);
        int n = 0;
        for (int z = -9; z <= 9; z += 9) {
            put(x, n++, new int[] {7, 1, z}, 1, 4);
            put(x, n++, new int[] {1, 7, z}, 1, 4);
            put(x, n++, new int[] {-7, 1, z}, -1, 4);
            put(x, n++, new int[] {-1, 7, z}, -1, 4);
        }
        return x;
    }

    private static void promise19Spread() {
        SquarePlanes x = new SquarePlanes();
        due("19 all KEPT", x.spread(0), 1);
        due("19 all KEPT, lower", x.spread(1), 1);
        due("19 low", x.spread(-1), SquarePlanes.LOST);
        due("19 high", x.spread(2), SquarePlanes.LOST);
        for (int far : FAR_OUT) due("19 far", x.spread(far), SquarePlanes.LOST);
        SquarePlanes y = oneKept();
        due("19 one is KEPT", y.many(3), 1);
        due("19 with itself", y.spread(0), 0);
        due("19 with itself, lower", y.spread(1), 1);
        y.size(3);
        dueSpread(y);
        y.extra(9);
        dueSpread(y);
        y.size(2);
        dueSpread(y);
    }

    /** The KEPT ones, read once, as an object has but 512 calls. */
    private static int[] keptOnes(SquarePlanes x) {
        int[] all = new int[x.many(3)];
        for (int k = 0; k < all.length; k++) all[k] = x.kept(k);
        return all;
    }

    /** SPREAD is one of the APARTS, and none is greater. */
    private static void dueSpread(SquarePlanes x) {
        long upper = x.spread(0), lower = x.spread(1);
        int[] kept = keptOnes(x);
        int reached = 0;
        for (int i = 0; i < kept.length; i++) {
            for (int j = i; j < kept.length; j++) {
                long here = x.apart(kept[i], kept[j], 0), by = x.apart(kept[i], kept[j], 1);
                due("19 none is greater", here * lower > upper * by ? 1 : 0, 0);
                if (here == upper && by == lower) reached = 1;
            }
        }
        due("19 one reaches it", reached, 1);
    }

    private static void promise20Centre() {
        SquarePlanes x = new SquarePlanes();
        due("20 all are square to one: the first", x.centre(), 0);
        SquarePlanes y = oneKept();
        due("20 one is KEPT", y.centre(), 8);
        y.size(3);
        dueCentre(y);
        y.extra(9);
        dueCentre(y);
        y.turn(0);
        dueCentre(y);
    }

    private static void dueCentre(SquarePlanes x) {
        int[] kept = keptOnes(x);
        double[] farthest = new double[kept.length];
        for (int i = 0; i < kept.length; i++) {
            for (int j = i; j < kept.length; j++) {
                double here = (double) x.apart(kept[i], kept[j], 0) / x.apart(kept[i], kept[j], 1);
                farthest[i] = Math.max(farthest[i], here);
                farthest[j] = Math.max(farthest[j], here);
            }
        }
        int best = 0;
        for (int i = 1; i < kept.length; i++) if (farthest[i] < farthest[best]) best = i;
        due("20 CENTRE", x.centre(), kept[best]);
    }

    /** What `without` and `turned` tell, asked of an object on which it was done. */
    private static void promise21Without() {
        for (int extra = 0; extra <= 9; extra += 3) {
            for (int n = 0; n < 5; n++) {
                SquarePlanes x = quarters();
                put(x, 4, new int[] {3, 2, 0}, -1, 3);
                x.extra(extra);
                int least = x.without(n, 0), kept = x.without(n, 1);
                due("21 it is still there", x.many(0), 5);
                x.drop(n);
                due("21 LEAST", least, x.many(4));
                due("21 KEPT", kept, x.many(3));
            }
        }
        SquarePlanes x = oneKept();
        put(x, 23, new int[] {7, 1, 9}, -1, 3);
        due("21 LEAST with it", x.many(4), 3);
        due("21 LEAST without it", x.without(23, 0), 0);
        due("21 KEPT without it", x.without(23, 1), 1);
        x.sign(23, 0);
        due("21 one without SIGN", x.without(23, 1), x.many(3));
        due("21 not there", x.without(22, 0), SquarePlanes.UNKNOWN);
        due("21 low what", x.without(0, -1), SquarePlanes.OUTSIDE);
        due("21 high what", x.without(0, 2), SquarePlanes.OUTSIDE);
        due("21 UNKNOWN first", x.without(24, 2), SquarePlanes.UNKNOWN);
        for (int far : FAR_OUT) {
            due("21 far n", x.without(far, 0), SquarePlanes.UNKNOWN);
            due("21 far what", x.without(0, far), SquarePlanes.OUTSIDE);
        }
    }

    private static void promise22Turned() {
        for (int extra = 0; extra <= 9; extra += 3) {
            for (int n = 0; n < 5; n++) {
                SquarePlanes x = quarters();
                put(x, 4, new int[] {3, 2, 0}, -1, 3);
                x.extra(extra);
                int least = x.turned(n, 0), kept = x.turned(n, 1);
                int sign = x.ofStation(n, 3) - 1;
                due("22 its SIGN is as it was", x.sign(n, -sign), sign + 1);
                due("22 LEAST", least, x.many(4));
                due("22 KEPT", kept, x.many(3));
            }
        }
        SquarePlanes x = oneKept();
        put(x, 23, new int[] {7, 1, 9}, -1, 3);
        due("22 LEAST with it", x.many(4), 3);
        due("22 LEAST with it turned", x.turned(23, 0), 0);
        due("22 KEPT with it turned", x.turned(23, 1), 1);
        x.sign(23, 1);
        due("22 LEAST with it turned back", x.turned(23, 0), 3);
        x.sign(23, 0);
        due("22 without SIGN", x.turned(23, 0), SquarePlanes.STATE);
        due("22 OUTSIDE ahead of STATE", x.turned(23, 2), SquarePlanes.OUTSIDE);
        due("22 not there", x.turned(22, 0), SquarePlanes.UNKNOWN);
        SquarePlanes full = new SquarePlanes();
        full.size(1);
        for (int n = 0; n < 24; n++) put(full, n, new int[] {9, 5, 2}, n == 23 ? -1 : 1, 4);
        // At (9, 5, 2) no POLE of SIZE 1 has the dot 0: half of all SOLUTIONS are up, half down.
        due("22 the most AGAINST", full.solution(8, 0) * 100 + full.solution(9, 0), 492);
        due("22 LEAST of the most", full.turned(23, 0) * 100 + full.turned(0, 0), 8);
        due("22 KEPT of the most", full.turned(23, 1) * 100 + full.turned(0, 1), 2424);
        due("22 low what", x.turned(0, -1), SquarePlanes.OUTSIDE);
        due("22 UNKNOWN first", x.turned(24, 2), SquarePlanes.UNKNOWN);
        for (int far : FAR_OUT) {
            due("22 far n", x.turned(far, 0), SquarePlanes.UNKNOWN);
            due("22 far what", x.turned(0, far), SquarePlanes.OUTSIDE);
        }
    }

    private static void promise23Foretold() {
        SquarePlanes x = oneKept();
        due("23 up", x.foretold(5, 5, 1, 1), 1);
        due("23 not down", x.foretold(5, 5, 1, -1), 0);
        due("23 down", x.foretold(5, -5, 1, -1), 1);
        due("23 neither", x.foretold(0, -5, 1, 0), 1);
        x.extra(9);
        for (int s = -1; s <= 1; s++) {
            int found = 0;
            for (int k = 0; k < x.many(3); k++) if (x.signAt(x.kept(k), 2, -3, 4) == s + 1) found++;
            due("23 SIGN " + s, x.foretold(2, -3, 4, s), found);
        }
        due("23 all 0", x.foretold(0, 0, 0, 1), SquarePlanes.OUTSIDE);
        due("23 high", x.foretold(0, 10, 0, 1), SquarePlanes.OUTSIDE);
        due("23 high s", x.foretold(0, 1, 0, 2), SquarePlanes.OUTSIDE);
        due("23 low s", x.foretold(0, 1, 0, -2), SquarePlanes.OUTSIDE);
        for (int far : FAR_OUT) {
            due("23 far x", x.foretold(far, 1, 1, 1), SquarePlanes.OUTSIDE);
            due("23 far y", x.foretold(1, far, 1, 1), SquarePlanes.OUTSIDE);
            due("23 far z", x.foretold(1, 1, far, 1), SquarePlanes.OUTSIDE);
            due("23 far s", x.foretold(1, 1, 1, far), SquarePlanes.OUTSIDE);
        }
    }

    private static void promise24Many() {
        SquarePlanes x = new SquarePlanes();
        x.size(1);
        // AXES: 3 of the kind (1,0,0), 6 of (0,1,1), 12 of (2,1,1). PAIRS 9 to 13 and 17 to 21 have
        // two POLES that both reach up or down: each LIFTS by one SENSE and SINKS by the other.
        int[] want = {0, 13, 24, 48, 0, 21, 10, 10, 28, 0};
        for (int what = 0; what < 10; what++) due("24 what " + what, x.many(what), want[what]);
        SquarePlanes y = oneKept();
        int[] one = {12, 13, 24, 1, 0, 1, 0, 0, 1, 48};
        for (int what = 0; what < 10; what++) due("24 one KEPT, what " + what, y.many(what), one[what]);
        y.sign(0, 0);
        due("24 WEIGHTS of those with a SIGN", y.many(9), 44);
        y.sign(0, -1);
        due("24 LEAST", y.many(4), 4);
        SquarePlanes full = new SquarePlanes();
        for (int n = 0; n < 24; n++) put(full, n, new int[] {1, 2, 3}, n % 2 == 0 ? 1 : -1, 4);
        due("24 all STATIONS", full.many(0), 24);
        due("24 all WEIGHTS", full.many(9), 96);
        due("24 LEAST of NODAL ones", full.many(4), 0);
        for (int what : new int[] {-1, 10, Integer.MIN_VALUE, Integer.MAX_VALUE}) {
            due("24 what " + what, x.many(what), SquarePlanes.OUTSIDE);
        }
    }

    private static String told(Member member) {
        return Modifier.toString(member.getModifiers());
    }

    /** The class has the document's face and nothing else that can be seen. */
    private static void face() {
        due("UNKNOWN", SquarePlanes.UNKNOWN, -1);
        due("OUTSIDE", SquarePlanes.OUTSIDE, -2);
        due("STATE", SquarePlanes.STATE, -3);
        due("NONE", SquarePlanes.NONE, -9);
        due("LOST", SquarePlanes.LOST, Long.MIN_VALUE);
        due("public final", SquarePlanes.class.getModifiers(), Modifier.PUBLIC | Modifier.FINAL);
        Set<String> seen = new TreeSet<>();
        for (Field f : SquarePlanes.class.getDeclaredFields()) {
            if (!told(f).contains("private")) seen.add(told(f) + " " + f.getType() + " " + f.getName());
        }
        for (Constructor<?> c : SquarePlanes.class.getDeclaredConstructors()) {
            seen.add(told(c) + " new" + Arrays.toString(c.getParameterTypes()));
        }
        for (Method m : SquarePlanes.class.getDeclaredMethods()) {
            if (!told(m).contains("private")) {
                seen.add(told(m) + " " + m.getReturnType() + " " + m.getName() + m.getParameterCount());
            }
        }
        Set<String> want = new TreeSet<>(Set.of("public new[]", "public static final long LOST"));
        for (String name : "UNKNOWN OUTSIDE STATE NONE".split(" ")) want.add("public static final int " + name);
        String ints = "station4 sign2 weigh2 drop1 turn1 ofStation2 size1 extra1 pole2 poleOf3 pair2 pairOf2 "
            + "solution2 signAt4 kept1 axis2 centre0 without2 turned2 foretold4 many1";
        for (String name : ints.split(" ")) want.add("public int " + name);
        want.add("public long apart3");
        want.add("public long spread1");
        if (!seen.equals(want)) {
            wrong++;
            System.out.println("the face is " + seen + ", due is " + want);
        }
    }

    public static void main(String[] args) {
        promise1NewObject();
        promise2Station();
        promise3Sign();
        promise4Weigh();
        promise5Drop();
        promise6Turn();
        promise7OfStation();
        promise8Size();
        promise9Extra();
        promise10Pole();
        promise11PoleOf();
        promise12Pair();
        promise13PairOf();
        promise14Solution();
        promise15SignAt();
        promise16Kept();
        promise17Axis();
        promise18Apart();
        promise19Spread();
        promise20Centre();
        promise21Without();
        promise22Turned();
        promise23Foretold();
        promise24Many();
        face();
        System.out.println(wrong == 0 ? "all promises are kept" : wrong + " answers are not as due");
        if (wrong != 0) System.exit(1);
    }
}
