import java.util.ArrayList;
import java.util.Arrays;
import java.util.HashSet;
import java.util.List;
import java.util.Set;

/**
 * The sentences of the document that name a boundary case which is answered, not refused (the least, the
 * greatest, none, all, one alone, what is alike, round and back again), each with a test of its own.
 * No object is asked more than its 512 calls.
 */
public final class SquarePlanesEdges {
    private static final int[] UPRIGHT = {0, 0, 5};

    // ---- What it is

    private static void callsOfAnObject() {
        Edges.edge("At most 512 calls: the 512th tells what the first ones did", () -> {
            SquarePlanes x = new SquarePlanes();
            x.station(0, 1, 2, 3);
            for (int call = 2; call <= 511; call++) x.turn(2);
            // 510 quarters are two of them.
            Edges.due("the 512th call", x.ofStation(0, 0), -1 + 10);
        });
        Edges.edge("At most 512 calls: the 512th finds the KEPT ones after 511 changes", () -> {
            SquarePlanes x = Edges.full(1, Edges.STEEP, 24);
            for (int call = 74; call <= 511; call++) x.sign(call % 24, call < 480 ? 1 : -1);
            Edges.due("the 512th call", x.kept(0), 1);
        });
        Edges.edge("At most 512 calls: the 512th is answered by the SIZE set last", () -> {
            SquarePlanes x = new SquarePlanes();
            for (int call = 1; call <= 511; call++) x.size(call % 3 + 1);
            Edges.due("the 512th call", x.many(2), Edges.PAIRS[511 % 3 + 1]);
        });
    }

    // ---- Terms

    private static void termsOfRefusals() {
        Edges.edge("Terms: NONE is -9", () -> {
            Edges.due("NONE", SquarePlanes.NONE, -9);
            Edges.due("poleOf", new SquarePlanes().poleOf(3, 0, 1), -9);
            Edges.due("pairOf", new SquarePlanes().pairOf(0, 0), -9);
        });
        Edges.edge("Terms: UNKNOWN, OUTSIDE, STATE and LOST are the face's numbers", () -> {
            Edges.due("UNKNOWN", SquarePlanes.UNKNOWN, -1);
            Edges.due("OUTSIDE", SquarePlanes.OUTSIDE, -2);
            Edges.due("STATE", SquarePlanes.STATE, -3);
            Edges.due("LOST", SquarePlanes.LOST, Long.MIN_VALUE);
        });
        Edges.edge("Terms: fractions are in least terms, the lower number above 0", () -> {
            for (int size = 1; size <= 3; size++) {
                int many = 2 * Edges.PAIRS[size];
                for (int s = 0; s < many; s += many / 12) {
                    SquarePlanes x = Edges.ofSize(size);
                    for (int t = s % 7; t < many; t += many / 47) {
                        int upper = (int) x.apart(s, t, 0), lower = (int) x.apart(s, t, 1);
                        Edges.dueTrue("0 .. 1: " + upper + " by " + lower, lower > 0 && upper >= 0 && upper <= lower);
                        Edges.due("common divisor of " + upper + ", " + lower, Edges.divisor(upper, lower), 1);
                    }
                }
            }
        });
        Edges.edge("Terms: 0 is 0 by 1", () -> {
            SquarePlanes x = Edges.ofSize(3);
            for (int s = 0; s < 1092; s += 13) dueFraction(x, s, s, 0, 1);
        });
        Edges.edge("Terms: a whole 1 is 1 by 1", () -> {
            // (1, 0, 0) and (0, 0, 1); (2, 1, 1) and (0, 1, -1) of PAIR 8: POLES (1, 0, 0), (0, 1, 1).
            dueFraction(Edges.ofSize(1), 0, 8, 1, 1);
            dueFraction(Edges.ofSize(1), 20, 16, 1, 1);
        });
    }

    private static void dueFraction(SquarePlanes x, int s, int t, long upper, long lower) {
        Edges.due("upper of " + s + ", " + t, x.apart(s, t, 0), upper);
        Edges.due("lower of " + s + ", " + t, x.apart(s, t, 1), lower);
    }

    private static void termsOfStations() {
        Edges.edge("Terms: STATIONS 0 .. 23, none at first", () -> {
            SquarePlanes x = new SquarePlanes();
            Edges.due("many", x.many(0), 0);
            for (int n = 0; n < 24; n++) Edges.due("STATION " + n, x.ofStation(n, 4), Edges.UNKNOWN);
        });
        Edges.edge("Terms: STATION 0, the least", () -> dueAlone(0));
        Edges.edge("Terms: STATION 23, the greatest", () -> dueAlone(23));
        Edges.edge("Terms: all 24 STATIONS, each with what is its own", () -> {
            SquarePlanes x = new SquarePlanes();
            for (int n = 0; n < 24; n++) Edges.put(x, n, ownDirection(n), n % 3 - 1, n % 4 + 1);
            for (int n = 0; n < 24; n++) {
                dueDirection(x, n, ownDirection(n));
                Edges.due("SIGN of " + n, x.ofStation(n, 3), n % 3);
                Edges.due("WEIGHT of " + n, x.ofStation(n, 4), n % 4 + 1);
            }
            Edges.due("many", x.many(0), 24);
        });
        Edges.edge("Terms: DIRECTION's numbers -9, the least", () -> dueHeld(-9, -9, -9));
        Edges.edge("Terms: DIRECTION's numbers 9, the greatest", () -> dueHeld(9, 9, 9));
        Edges.edge("Terms: DIRECTION not all 0, but two of them", () -> {
            dueHeld(1, 0, 0);
            dueHeld(0, -1, 0);
            dueHeld(0, 0, 1);
        });
        Edges.edge("Terms: DIRECTION is not put in least terms", () -> dueHeld(-6, 9, 3));
        Edges.edge("Terms: SIGN 1 up, -1 down, 0 none", () -> {
            SquarePlanes x = Edges.withStations(1, new int[] {9, 3, 1, 1, 1});
            Edges.due("up", x.solution(0, 0) * 10 + x.solution(1, 0), 1);
            x.sign(0, -1);
            Edges.due("down", x.solution(0, 0) * 10 + x.solution(1, 0), 10);
            x.sign(0, 0);
            Edges.due("none", x.solution(0, 0) * 10 + x.solution(1, 0), 0);
        });
        Edges.edge("Terms: WEIGHT 1, the least, and 4, the greatest", () -> {
            SquarePlanes x = Edges.withStations(1, new int[] {9, 3, 1, 1, 1});
            Edges.due("MISFIT by 1", x.solution(1, 0), 1);
            x.weigh(0, 4);
            Edges.due("MISFIT by 4", x.solution(1, 0), 4);
        });
    }

    private static int[] ownDirection(int n) {
        return new int[] {n % 19 - 9, 9 - n % 5, -(n % 10)};
    }

    private static void dueDirection(SquarePlanes x, int n, int... want) {
        for (int i = 0; i < 3; i++) Edges.due("number " + i + " of STATION " + n, x.ofStation(n, i), want[i] + 10);
    }

    private static void dueHeld(int a, int b, int c) {
        SquarePlanes x = new SquarePlanes();
        Edges.due("station", x.station(12, a, b, c), 0);
        dueDirection(x, 12, a, b, c);
    }

    private static void dueAlone(int only) {
        SquarePlanes x = new SquarePlanes();
        Edges.due("station", x.station(only, 1, 2, 3), 0);
        for (int n = 0; n < 24; n++) Edges.due("STATION " + n, x.ofStation(n, 4), n == only ? 1 : Edges.UNKNOWN);
        Edges.due("many", x.many(0), 1);
        Edges.due("drop", x.drop(only), 0);
    }

    private static void termsOfPoles() {
        Edges.edge("Terms: SIZE is 2 at first", () -> {
            SquarePlanes x = new SquarePlanes();
            Edges.due("POLES", x.many(1), 49);
            Edges.due("size", x.size(2), 2);
        });
        Edges.edge("Terms: SIZE 1, the least, and 3, the greatest", () -> {
            SquarePlanes x = new SquarePlanes();
            Edges.due("to 1", x.size(1), 2);
            Edges.due("to 3", x.size(3), 1);
            Edges.due("from 3", x.size(3), 3);
        });
        for (int v = 1; v <= 3; v++) {
            int size = v;
            Edges.edge("Terms: POLES of SIZE " + size + " are all there and no others", () -> dueAllPoles(size));
            Edges.edge("Terms: POLES of SIZE " + size + " by their greatest, their squares, their numbers", () -> {
                int[][] poles = polesOf(size);
                for (int k = 1; k < poles.length; k++) {
                    dueLess("POLE " + (k - 1), poleRank(poles[k - 1]), poleRank(poles[k]));
                }
            });
            Edges.edge("Terms: PAIRS of SIZE " + size + " are all there, by the lesser POLE, then the other one",
                () -> dueAllPairs(size));
        }
        Edges.edge("Terms: POLES have a first number that is not 0 above 0", () -> {
            SquarePlanes x = new SquarePlanes();
            Edges.due("(0, 0, -1) is (0, 0, 1)", x.poleOf(0, 0, -1), 0);
            Edges.due("(0, -1, 1) is (0, 1, -1)", x.poleOf(0, -1, 1), 3);
            Edges.due("(-1, 1, 1) is (1, -1, -1)", x.poleOf(-1, 1, 1), 9);
        });
    }

    /** The POLES as the object tells them; at most 435 calls. */
    private static int[][] polesOf(int size) {
        SquarePlanes x = Edges.ofSize(size);
        int[][] poles = new int[x.many(1)][3];
        for (int k = 0; k < poles.length; k++) {
            for (int i = 0; i < 3; i++) poles[k][i] = x.pole(k, i) - 10;
        }
        return poles;
    }

    private static int greatest(int[] t) {
        return Math.max(Math.abs(t[0]), Math.max(Math.abs(t[1]), Math.abs(t[2])));
    }

    private static boolean isPole(int[] t, int size) {
        int lead = t[0] != 0 ? t[0] : t[1] != 0 ? t[1] : t[2];
        return greatest(t) <= size && lead > 0 && Edges.divisor(Edges.divisor(t[0], t[1]), t[2]) == 1;
    }

    private static int[] poleRank(int[] t) {
        return new int[] {greatest(t), Edges.dot(t, t), t[0], t[1], t[2]};
    }

    private static void dueLess(String what, int[] one, int[] next) {
        Edges.dueTrue(what + " goes ahead of the next", Arrays.compare(one, next) < 0);
    }

    private static void dueAllPoles(int size) {
        Set<List<Integer>> told = new HashSet<>();
        for (int[] t : polesOf(size)) told.add(List.of(t[0], t[1], t[2]));
        Edges.due("unlike POLES", told.size(), Edges.POLES[size]);
        int due = 0;
        for (int a = -9; a <= 9; a++) {
            for (int b = -9; b <= 9; b++) {
                for (int c = -9; c <= 9; c++) {
                    if (!isPole(new int[] {a, b, c}, size)) continue;
                    due++;
                    Edges.dueTrue(a + ", " + b + ", " + c + " is a POLE", told.contains(List.of(a, b, c)));
                }
            }
        }
        Edges.due("POLES", due, told.size());
    }

    private static void dueAllPairs(int size) {
        int[][] poles = polesOf(size);
        int due = 0;
        SquarePlanes x = null;
        for (int a = 0; a < poles.length; a++) {
            for (int b = a + 1; b < poles.length; b++) {
                if (Edges.dot(poles[a], poles[b]) != 0) continue;
                if (due % 200 == 0) x = Edges.ofSize(size);
                Edges.due("lesser POLE of PAIR " + due, x.pair(due, 0), a);
                Edges.due("greater POLE of PAIR " + due, x.pair(due, 1), b);
                due++;
            }
        }
        Edges.due("PAIRS", Edges.ofSize(size).many(2), due);
        Edges.due("PAIRS that the other tests rest on", Edges.PAIRS[size], due);
    }

    private static void termsOfSolutions() {
        for (int v = 1; v <= 2; v++) {
            int size = v;
            Edges.edge("Terms: SENSE is 1 (s even) or -1 (odd), from the first to the last, SIZE " + size, () -> {
                SquarePlanes x = Edges.ofSize(size);
                for (int s = 0; s < 2 * Edges.PAIRS[size]; s++) {
                    Edges.due("SOLUTION " + s, x.signAt(s, 9, 3, 1), s % 2 == 0 ? 2 : 0);
                }
            });
        }
        Edges.edge("Terms: SOLUTION s is PAIR s by 2 (cut down), the first and last of SIZE 3", () -> {
            SquarePlanes x = Edges.ofSize(3);
            // PAIR 0: (0, 0, 1), (0, 1, 0).
            Edges.due("0", x.signAt(0, 5, 2, 1), 2);
            Edges.due("1", x.signAt(1, 5, 2, 1), 0);
            // PAIR 545: (3, 3, 1), (3, -2, -3).
            Edges.due("1090", x.signAt(1090, 5, 2, 1), 2);
            Edges.due("1091", x.signAt(1091, 5, 2, 1), 0);
            Edges.due("1090, down", x.signAt(1090, 5, 9, 1), 0);
        });
        Edges.edge("Terms: a SIGN is 0 on the one plane", () -> dueSignOfBoth(5, 0, 3, 1, 1));
        Edges.edge("Terms: a SIGN is 0 on the other plane", () -> dueSignOfBoth(0, 5, 3, 1, 1));
        Edges.edge("Terms: a SIGN is 0 where both planes meet", () -> dueSignOfBoth(0, 0, -9, 1, 1));
        Edges.edge("Terms: a SIGN is told just beside the planes", () -> {
            dueSignOfBoth(9, 1, 0, 2, 0);
            dueSignOfBoth(9, -1, 0, 0, 2);
            dueSignOfBoth(-9, -1, 0, 2, 0);
            dueSignOfBoth(-1, 9, 9, 0, 2);
        });
    }

    /** SOLUTIONS 8 and 9 of SIZE 1 have the POLES (0, 1, 0) and (1, 0, 0). */
    private static void dueSignOfBoth(int a, int b, int c, int even, int odd) {
        SquarePlanes x = Edges.ofSize(1);
        Edges.due("SOLUTION 8", x.signAt(8, a, b, c), even);
        Edges.due("SOLUTION 9", x.signAt(9, a, b, c), odd);
    }

    private static void termsOfMisfits() {
        Edges.edge("Terms: AGAINST are STATIONS that are there: one that is no more is not", () -> {
            SquarePlanes x = Edges.withStations(1, new int[] {9, 3, 1, 1, 3});
            Edges.due("MISFIT with it", x.solution(1, 0), 3);
            x.drop(0);
            Edges.due("MISFIT", x.solution(1, 0), 0);
            Edges.due("AGAINST", x.solution(1, 2), 0);
        });
        Edges.edge("Terms: NODAL are STATIONS that are there: one that is no more is not", () -> {
            SquarePlanes x = Edges.withStations(1, new int[] {0, 0, 5, 1, 3});
            Edges.due("NODAL with it", x.solution(0, 1), 3);
            x.drop(0);
            Edges.due("NODAL", x.solution(0, 1), 0);
        });
        Edges.edge("Terms: AGAINST have a SIGN other than 0", () -> {
            SquarePlanes x = Edges.withStations(1, new int[] {9, 3, 1, 0, 4});
            for (int s = 0; s < 48; s++) Edges.due("AGAINST " + s, x.solution(s, 0) + x.solution(s, 2), 0);
        });
        Edges.edge("Terms: NODAL have a SIGN other than 0", () -> {
            SquarePlanes x = Edges.withStations(1, new int[] {0, 0, 5, 0, 4});
            for (int s = 0; s < 48; s++) Edges.due("NODAL at " + s, x.solution(s, 1), 0);
        });
        Edges.edge("Terms: NODAL ones are not AGAINST, up or down", () -> {
            for (int sign = -1; sign <= 1; sign += 2) {
                SquarePlanes x = Edges.withStations(1, new int[] {0, 0, 5, sign, 4});
                Edges.due("SENSE 1", x.solution(0, 0) + x.solution(0, 2), 0);
                Edges.due("SENSE -1", x.solution(1, 0) + x.solution(1, 2), 0);
                Edges.due("NODAL at both", x.solution(0, 1) * 10 + x.solution(1, 1), 44);
            }
        });
        Edges.edge("Terms: MISFIT without STATIONS is 0, and LEAST too", () -> {
            SquarePlanes x = Edges.ofSize(1);
            for (int s = 0; s < 48; s++) Edges.due("MISFIT of " + s, x.solution(s, 0), 0);
            Edges.due("LEAST", x.many(4), 0);
        });
        Edges.edge("Terms: MISFIT at its greatest, all 24 of WEIGHT 4", () -> {
            SquarePlanes x = Edges.full(2, Edges.STEEP, 24);
            Edges.due("even", x.solution(274, 0) * 100 + x.solution(274, 2), 0);
            Edges.due("odd", x.solution(275, 0) * 100 + x.solution(275, 2), 9624);
        });
        Edges.edge("Terms: WEIGHTS of NODAL ones at their greatest", () -> {
            SquarePlanes x = Edges.full(1, UPRIGHT, 12);
            Edges.due("NODAL", x.solution(0, 1), 96);
            Edges.due("NODAL, SENSE -1", x.solution(1, 1), 96);
            Edges.due("the last place", x.solution(47, 4), 27);
        });
        Edges.edge("Terms: LEAST is the least of all, be it of an odd one", () -> {
            SquarePlanes x = Edges.withStations(1, new int[] {9, 3, 1, 1, 3}, new int[] {9, 3, 1, -1, 4});
            Edges.due("LEAST", x.many(4), 3);
            Edges.due("KEPT", x.many(3), 24);
            Edges.due("the first", x.kept(0), 1);
        });
        Edges.edge("Terms: LEAST is that of the first SOLUTION alone, or of the last alone", () -> {
            dueKept(Edges.withStations(1,
                new int[] {-3, 1, 0, -1, 1}, new int[] {-3, 1, 1, 1, 3}, new int[] {-3, 0, 2, -1, 1}), 0);
            dueKept(Edges.withStations(1,
                new int[] {2, -2, -3, -1, 4}, new int[] {1, -2, -3, 1, 3}, new int[] {0, -1, -2, -1, 3}), 47);
        });
        Edges.edge("Terms: LEAST at its greatest, half of all WEIGHTS", () -> {
            SquarePlanes x = Edges.full(2, Edges.STEEP, 12);
            Edges.due("LEAST", x.many(4), 48);
            Edges.due("KEPT", x.many(3), 276);
        });
    }

    private static void termsOfKeptOnes() {
        Edges.edge("Terms: EXTRA is 0 at first", () -> {
            SquarePlanes x = Edges.withStations(1, new int[] {9, 3, 1, 1, 1});
            Edges.due("KEPT", x.many(3), 24);
            Edges.due("extra", x.extra(0), 0);
        });
        Edges.edge("Terms: KEPT are those not more than EXTRA above LEAST: as many are, one more is not", () -> {
            // MISFIT of the odd ones is the sum of WEIGHTS, 1 .. 10; EXTRA goes from 0 to 9.
            for (int sum = 1; sum <= 10; sum++) {
                SquarePlanes x = Edges.ofSize(1);
                for (int n = 0; n * 4 < sum; n++) Edges.put(x, n, Edges.STEEP, 1, Math.min(4, sum - 4 * n));
                for (int extra = 0; extra <= 9; extra++) {
                    x.extra(extra);
                    Edges.due("KEPT, " + sum + " by EXTRA " + extra, x.many(3), extra >= sum ? 48 : 24);
                    Edges.due("place, " + sum + " by EXTRA " + extra, x.solution(1, 4), extra >= sum ? 24 : Edges.NONE);
                }
            }
        });
        Edges.edge("Terms: EXTRA is counted from LEAST, not from 0", () -> {
            SquarePlanes x = Edges.full(1, Edges.STEEP, 11);
            // Up 44, down 52: the odd ones have 44 against them, the even ones 52.
            x.extra(7);
            Edges.due("KEPT by 7", x.many(3), 24);
            x.extra(8);
            Edges.due("KEPT by 8", x.many(3), 48);
        });
        int[] lifts = {19, 20, 23, 24, 27, 35, 37, 39, 41, 43};
        int[] sinks = {18, 21, 22, 25, 26, 34, 36, 38, 40, 42};
        Edges.edge("Terms: in an order by MISFIT, then by WEIGHTS of NODAL ones, then by number", () -> {
            // By one upright STATION: LIFTS fit, SLIDES are NODAL, SINKS are against it.
            SquarePlanes x = Edges.withStations(1, new int[] {0, 0, 5, 1, 3});
            x.extra(3);
            Edges.due("KEPT", x.many(3), 48);
            List<Integer> order = new ArrayList<>();
            for (int s : lifts) order.add(s);
            for (int s = 0; s < 48; s++) if (s < 18 || s >= 28 && s < 34 || s >= 44) order.add(s);
            for (int s : sinks) order.add(s);
            for (int k = 0; k < 48; k++) {
                Edges.due("place " + k, x.kept(k), order.get(k));
                Edges.due("place of " + order.get(k), x.solution(order.get(k), 4), k);
            }
        });
        Edges.edge("Terms: MISFIT goes ahead of the WEIGHTS of NODAL ones, however great", () -> {
            SquarePlanes x = Edges.ofSize(1);
            for (int n = 0; n < 23; n++) Edges.put(x, n, new int[] {5, 0, 0}, 1, 4);
            Edges.put(x, 23, Edges.STEEP, 1, 1);
            x.extra(1);
            // SOLUTION 8 fits, with 92 NODAL; 29 (POLES (1, -1, 0), (1, 1, 0), SENSE -1) has all against it.
            Edges.due("NODAL of 8", x.solution(8, 1), 92);
            Edges.due("28 fits with none NODAL", x.solution(28, 0) * 100 + x.solution(28, 1), 0);
            Edges.dueTrue("28 is ahead of 8", x.solution(28, 4) < x.solution(8, 4));
            Edges.due("9 has 1 against it", x.solution(9, 0), 1);
            Edges.dueTrue("8 is ahead of 9", x.solution(8, 4) < x.solution(9, 4));
            Edges.due("29 is not KEPT", x.solution(29, 4), Edges.NONE);
        });
        Edges.edge("Terms: KEPT at their edge: EXTRA 9 above LEAST, with the most NODAL ones there can be", () -> {
            SquarePlanes x = Edges.ofSize(1);
            for (int n = 0; n < 21; n++) Edges.put(x, n, UPRIGHT, n % 2 == 0 ? 1 : -1, 4);
            for (int n = 21; n < 24; n++) Edges.put(x, n, Edges.STEEP, 1, n < 23 ? 4 : 1);
            x.extra(9);
            Edges.due("KEPT, those that SLIDE", x.many(3), 28);
            Edges.due("MISFIT and NODAL of the last", x.solution(47, 0) * 100 + x.solution(47, 1), 984);
            Edges.due("the first of SENSE -1", x.solution(1, 4), 14);
            Edges.due("the last", x.solution(47, 4), 27);
        });
        Edges.edge("Terms: by the WEIGHTS of NODAL ones together, not by how many they are", () ->
            // One is NODAL at each: of WEIGHT 1 at 39, of WEIGHT 2 at 9.
            dueKept(Edges.withStations(1,
                new int[] {0, -3, -2, 1, 2}, new int[] {-1, 1, -3, 1, 3}, new int[] {-3, 1, 2, 1, 1}), 39, 9));
        Edges.edge("Terms: by number, if all else is alike", () -> {
            SquarePlanes x = new SquarePlanes();
            for (int k = 0; k < 276; k++) Edges.due("KEPT " + k, x.kept(k), k);
        });
    }

    private static void dueAxis(SquarePlanes x, int s, int... want) {
        for (int i = 0; i < 3; i++) Edges.due("number " + i + " of the AXIS of " + s, x.axis(s, i), want[i] + 100);
    }

    private static void termsOfAxes() {
        Edges.edge("Terms: AXIS by its greatest common divisor", () -> {
            // PAIR 14: (1, -1, 0), (1, 1, 0): (0, 0, 2).
            dueAxis(Edges.ofSize(1), 28, 0, 0, 1);
            // PAIR 9: (0, 1, -1), (0, 1, 1): (2, 0, 0).
            dueAxis(Edges.ofSize(1), 18, 1, 0, 0);
        });
        Edges.edge("Terms: AXIS the other way, if its first number is below 0", () ->
            // PAIR 0: (0, 0, 1), (0, 1, 0): (-1, 0, 0). PAIR 10: (0, 1, -1), (1, -1, -1): (-2, -1, -1).
            dueAxes(0, new int[] {1, 0, 0}, 20, new int[] {2, 1, 1}));
        Edges.edge("Terms: AXIS the other way, if its first number is 0 and the second below 0", () ->
            // PAIR 17: (1, 0, -1), (1, 0, 1): (0, -2, 0). PAIR 8: (1, 0, 0), (0, 1, 1): (0, -1, 1).
            dueAxes(34, new int[] {0, 1, 0}, 16, new int[] {0, 1, -1}));
        Edges.edge("Terms: AXIS the other way, if but its third number is below 0", () ->
            // PAIR 4: (0, 1, 0), (1, 0, 0): (0, 0, -1).
            dueAxes(8, new int[] {0, 0, 1}, 9, new int[] {0, 0, 1}));
        Edges.edge("Terms: AXIS stays, if its first number is above 0", () ->
            // PAIR 20: (1, 0, 1), (1, -1, -1): (1, 2, -1).
            dueAxes(40, new int[] {1, 2, -1}, 41, new int[] {1, 2, -1}));
        Edges.edge("Terms: AXES are square to both POLES, in least terms, for all PAIRS of each SIZE", () -> {
            for (int size = 1; size <= 3; size++) dueAllAxes(size);
        });
        Edges.edge("Terms: KIND: it LIFTS, it SINKS", () -> {
            // PAIR 17: (1, 0, -1), (1, 0, 1): at (0, 0, 1) it is -1 by SENSE 1.
            Edges.due("SINKS", Edges.ofSize(1).solution(34, 3), 0);
            Edges.due("LIFTS", Edges.ofSize(1).solution(35, 3), 2);
        });
        Edges.edge("Terms: KIND 0 it SLIDES, by either SENSE, with one plane upright or both", () -> {
            SquarePlanes x = Edges.ofSize(1);
            // PAIR 0: (0, 0, 1), (0, 1, 0). PAIR 4: (0, 1, 0), (1, 0, 0).
            for (int s : new int[] {0, 1, 8, 9}) Edges.due("SLIDES " + s, x.solution(s, 3), 1);
        });
        Edges.edge("Terms: APART of what is alike is 0", () -> {
            dueFraction(Edges.ofSize(1), 0, 1, 0, 1);
            // PAIRS 0 and 9 have the AXIS (1, 0, 0) both.
            dueFraction(Edges.ofSize(1), 0, 18, 0, 1);
        });
        Edges.edge("Terms: APART of what is square is 1", () ->
            // (1, 0, 0) and (0, 1, 0).
            dueFraction(Edges.ofSize(1), 0, 34, 1, 1));
        Edges.edge("Terms: APART by a dot below 0 is as by one above 0", () -> {
            // PAIR 10: (2, 1, 1). PAIR 23: (1, 1, 0), (1, -1, 1): (1, -1, -2), dot -1: 1 - 1 by 36.
            dueFraction(Edges.ofSize(1), 20, 46, 35, 36);
            dueFraction(Edges.ofSize(1), 46, 20, 35, 36);
        });
    }

    private static void dueAxes(int s, int[] one, int t, int[] other) {
        SquarePlanes x = Edges.ofSize(1);
        dueAxis(x, s, one);
        dueAxis(x, t, other);
    }

    private static void dueAllAxes(int size) {
        int[][] poles = polesOf(size);
        for (int k = 0; k < Edges.PAIRS[size]; k++) {
            SquarePlanes x = Edges.ofSize(size);
            int[] axis = {x.axis(2 * k, 0) - 100, x.axis(2 * k, 1) - 100, x.axis(2 * k, 2) - 100};
            Edges.due("with the lesser POLE of " + k, Edges.dot(axis, poles[x.pair(k, 0)]), 0);
            Edges.due("with the greater POLE of " + k, Edges.dot(axis, poles[x.pair(k, 1)]), 0);
            Edges.dueTrue("the AXIS of " + k + " is in least terms, not the other way", isPole(axis, 99));
            dueAxis(x, 2 * k + 1, axis);
        }
    }

    /** One is KEPT at SIZE 1: SOLUTION 8, between STATIONS on both sides of its planes. */
    private static SquarePlanes oneKept() {
        SquarePlanes x = Edges.ofSize(1);
        for (int n = 0; n < 12; n++) {
            int z = 9 * (n / 4 - 1);
            int side = n % 2 == 0 ? 1 : -1;
            Edges.put(x, n, n % 4 < 2 ? new int[] {7 * side, 1, z} : new int[] {side, 7, z}, side, 4);
        }
        return x;
    }

    /** KEPT is 42 alone: POLES (1, 0, 1), (1, 1, -1). */
    private static SquarePlanes oneThatSinks() {
        return Edges.withStations(1,
            new int[] {-1, -2, -3, 1, 3}, new int[] {1, 3, -1, 1, 3}, new int[] {-2, 1, 0, 1, 4});
    }

    /** KEPT are 3, 5, 40 with the AXES (0, 1, 0), (1, 1, 0), (1, 2, -1): at most 1/2, 1/2, 1/3 from another. */
    private static SquarePlanes threeKept() {
        return Edges.withStations(1,
            new int[] {-1, -2, 0, -1, 2}, new int[] {1, -3, -1, 1, 4}, new int[] {-3, -3, 2, 1, 2});
    }

    /** KEPT are 43, 15, 13, 9, in this order: at most 5/6, 3/4, 3/4, 5/6 from another. */
    private static SquarePlanes fourKept() {
        return Edges.withStations(1,
            new int[] {-3, 0, 1, -1, 4}, new int[] {0, 2, 1, -1, 3}, new int[] {1, -2, -1, 1, 2});
    }

    /** KEPT are 19 and 1, in this order, both with the AXIS (1, 0, 0). */
    private static SquarePlanes twoOfOneAxis() {
        return Edges.withStations(1, new int[] {3, -2, 0, -1, 2}, new int[] {-3, -2, -1, -1, 4},
            new int[] {3, -2, 2, 1, 1}, new int[] {-3, 0, 1, 1, 2});
    }

    private static void dueKept(SquarePlanes x, int... want) {
        for (int k = 0; k < want.length; k++) Edges.due("KEPT " + k, x.kept(k), want[k]);
        Edges.due("KEPT", x.many(3), want.length);
    }

    private static void dueSpread(SquarePlanes x, long upper, long lower) {
        Edges.due("SPREAD, upper", x.spread(0), upper);
        Edges.due("SPREAD, lower", x.spread(1), lower);
    }

    private static void termsOfSpreadAndCentre() {
        Edges.edge("Terms: SPREAD, if but one is KEPT, is 0 by 1", () -> {
            SquarePlanes x = oneKept();
            dueKept(x, 8);
            dueSpread(x, 0, 1);
        });
        Edges.edge("Terms: SPREAD of two KEPT ones with one AXIS is 0 by 1", () -> {
            SquarePlanes x = twoOfOneAxis();
            dueKept(x, 19, 1);
            dueSpread(x, 0, 1);
        });
        Edges.edge("Terms: SPREAD is the greatest APART", () -> {
            dueKept(threeKept(), 3, 5, 40);
            dueSpread(threeKept(), 1, 2);
            dueKept(fourKept(), 43, 15, 13, 9);
            dueSpread(fourKept(), 5, 6);
        });
        Edges.edge("Terms: SPREAD of all, without STATIONS, is 1 by 1", () -> {
            for (int size = 1; size <= 3; size++) dueSpread(Edges.ofSize(size), 1, 1);
        });
        Edges.edge("Terms: CENTRE, if but one is KEPT", () -> Edges.due("CENTRE", oneKept().centre(), 8));
        Edges.edge("Terms: CENTRE is the one of the least, be it the last", () ->
            Edges.due("CENTRE", threeKept().centre(), 40));
        Edges.edge("Terms: CENTRE of several the first in their order, not by number", () -> {
            Edges.due("of 15 and 13", fourKept().centre(), 15);
            Edges.due("of 19 and 1, of one AXIS", twoOfOneAxis().centre(), 19);
        });
        Edges.edge("Terms: CENTRE is told by the least difference: 111187 by 111188 is less than 1", () ->
            // By SIZE 3 some AXES have no square one; the first of those is (11, 9, -8).
            Edges.due("CENTRE", Edges.ofSize(3).centre(), 996));
        Edges.edge("Terms: CENTRE, if all are alike, is the first in their order", () -> {
            for (int size = 1; size <= 2; size++) Edges.due("SIZE " + size, Edges.ofSize(size).centre(), 0);
            // One upright STATION: 19 is the first that LIFTS, and among those KEPT each has a square one.
            Edges.due("LIFTS", Edges.withStations(1, new int[] {0, 0, 5, 1, 3}).centre(), 19);
        });
    }

    private static void termsOfTurns() {
        int[][] becomes = {{9, 7, -8}, {-7, -8, -9}, {8, 9, -7}, {9, -8, 7}};
        for (int i = 0; i < 4; i++) {
            int how = i;
            Edges.edge("Terms: TURN " + how + " of (9, -8, -7)", () -> {
                SquarePlanes x = Edges.withStations(2, new int[] {9, -8, -7, -1, 3});
                Edges.due("turn", x.turn(how), 1);
                dueDirection(x, 0, becomes[how]);
            });
            Edges.edge("Terms: TURN " + how + (how < 3 ? " four times" : " twice") + " leads back", () -> {
                SquarePlanes x = Edges.withStations(2, new int[] {9, -8, -7, -1, 3});
                for (int times = how < 3 ? 4 : 2; times > 0; times--) Edges.due("turn", x.turn(how), 1);
                dueDirection(x, 0, 9, -8, -7);
            });
        }
    }

    // ---- Promises

    private static void promises1To4() {
        Edges.edge("Promise 1: no STATIONS, whatever another object has", () -> {
            SquarePlanes other = Edges.full(3, Edges.STEEP, 12);
            SquarePlanes x = new SquarePlanes();
            Edges.due("STATIONS", x.many(0) + x.many(9), 0);
            Edges.due("KEPT, all", x.many(3), 276);
            x.station(0, 1, 1, 1);
            Edges.due("the other's STATION", other.ofStation(0, 0), 19);
        });
        Edges.edge("Promise 2: whether there was one: 0, then 1, then 0 after a drop", () -> {
            SquarePlanes x = new SquarePlanes();
            Edges.due("new", x.station(0, 1, 2, 3), 0);
            Edges.due("again", x.station(0, 1, 2, 3), 1);
            x.drop(0);
            Edges.due("after a drop", x.station(0, 1, 2, 3), 0);
        });
        Edges.edge("Promise 2: in place of any: SIGN 0 and WEIGHT 1, the DIRECTION be the same or not", () -> {
            SquarePlanes x = new SquarePlanes();
            for (int to = 1; to <= 2; to++) {
                Edges.put(x, 3, new int[] {1, 1, 1}, -1, 4);
                x.station(3, to, to, to);
                Edges.due("SIGN", x.ofStation(3, 3), 1);
                Edges.due("WEIGHT", x.ofStation(3, 4), 1);
            }
        });
        Edges.edge("Promise 2: a STATION that was dropped comes back with SIGN 0 and WEIGHT 1", () -> {
            SquarePlanes x = new SquarePlanes();
            Edges.put(x, 3, Edges.STEEP, -1, 4);
            x.drop(3);
            x.station(3, 9, 3, 1);
            Edges.due("SIGN and WEIGHT", x.ofStation(3, 3) * 10 + x.ofStation(3, 4), 11);
        });
        Edges.edge("Promise 2: in place of any: what the one before told is told no more", () -> {
            SquarePlanes x = Edges.withStations(1, new int[] {9, 3, 1, -1, 4});
            Edges.due("KEPT", x.many(3), 24);
            Edges.due("CENTRE", x.centre(), 1);
            x.station(0, 9, 3, 1);
            Edges.due("KEPT, all", x.many(3), 48);
            Edges.due("CENTRE of all", x.centre(), 0);
        });
        Edges.edge("Promise 2: all 24, and each again", () -> {
            SquarePlanes x = new SquarePlanes();
            for (int n = 0; n < 24; n++) Edges.due("new", x.station(n, 1, 2, 3), 0);
            for (int n = 0; n < 24; n++) Edges.due("again", x.station(n, 3, 2, 1), 1);
            Edges.due("STATIONS", x.many(0), 24);
        });
        Edges.edge("Promise 3: what it was and 1, for each SIGN to each", () -> {
            SquarePlanes x = new SquarePlanes();
            x.station(23, 1, 2, 3);
            int was = 0;
            for (int s : new int[] {0, 1, 1, 0, -1, -1, 1, -1, 0}) {
                Edges.due("SIGN was", x.sign(23, s), was + 1);
                Edges.due("SIGN is", x.ofStation(23, 3), s + 1);
                was = s;
            }
        });
        Edges.edge("Promise 4: what it was, for each WEIGHT", () -> {
            SquarePlanes x = new SquarePlanes();
            x.station(0, 1, 2, 3);
            int was = 1;
            for (int w : new int[] {1, 4, 4, 1, 2, 3, 4}) {
                Edges.due("WEIGHT was", x.weigh(0, w), was);
                Edges.due("WEIGHT is", x.ofStation(0, 4), w);
                was = w;
            }
        });
        Edges.edge("Promise 4: a WEIGHT stays when the SIGN becomes another, and a SIGN when the WEIGHT does", () -> {
            SquarePlanes x = Edges.withStations(1, new int[] {9, 3, 1, -1, 4});
            x.sign(0, 0);
            Edges.due("WEIGHT", x.ofStation(0, 4), 4);
            x.sign(0, 1);
            x.weigh(0, 1);
            Edges.due("SIGN", x.ofStation(0, 3), 2);
        });
    }

    private static final Edges.Ask[] CHANGES = {x -> x.station(0, 5, 0, 0), x -> x.sign(0, -1), x -> x.weigh(1, 1),
        x -> x.drop(2), x -> x.turn(0), x -> x.extra(4), x -> x.size(2)};

    private static SquarePlanes beforeChanges() {
        return Edges.withStations(1, new int[] {9, 3, 1, 1, 2}, new int[] {0, 0, 5, -1, 3}, new int[] {1, 2, 3, 1, 1});
    }

    private static long[] keptAndCentre(SquarePlanes x) {
        long[] told = new long[60];
        for (int what = 0; what < 10; what++) told[what] = x.many(what);
        for (int i = 0; i < 5; i++) told[10 + i] = x.kept(i);
        for (int s = 0; s < 40; s++) told[15 + s] = x.solution(s, 0);
        told[55] = x.spread(0);
        told[56] = x.spread(1);
        told[57] = x.centre();
        return told;
    }

    /** One object is asked ahead of the changes, the other is not: both must tell the same afterwards. */
    private static void changesAreSeen() {
        Edges.edge("Promises 2 to 9: a change is seen by the next question, whatever was asked ahead", () -> {
            for (Edges.Ask change : CHANGES) {
                SquarePlanes asked = beforeChanges(), other = beforeChanges();
                keptAndCentre(asked);
                change.of(asked);
                change.of(other);
                Edges.dueTrue("both tell the same", Arrays.equals(keptAndCentre(asked), keptAndCentre(other)));
            }
        });
        Edges.edge("Promises 2 to 9: two changes one behind the other are seen by the next question", () -> {
            for (Edges.Ask one : CHANGES) {
                for (Edges.Ask next : CHANGES) {
                    SquarePlanes asked = beforeChanges(), other = beforeChanges();
                    keptAndCentre(asked);
                    one.of(asked);
                    next.of(asked);
                    one.of(other);
                    next.of(other);
                    Edges.dueTrue("both tell the same", Arrays.equals(keptAndCentre(asked), keptAndCentre(other)));
                }
            }
        });
        Edges.edge("Promises 2, 6, 8, 9: the first call of an object is a change, the second a question", () -> {
            SquarePlanes[] all = {new SquarePlanes(), new SquarePlanes(), new SquarePlanes(), new SquarePlanes()};
            all[0].station(0, 1, 2, 3);
            all[1].turn(0);
            all[2].size(2);
            all[3].extra(9);
            for (SquarePlanes x : all) {
                Edges.due("KEPT, all", x.many(3), 276);
                Edges.due("unlike AXES", x.many(5), 109);
            }
        });
    }

    private static void promises5To7() {
        Edges.edge("Promise 5: how many are left, from 24 to none", () -> {
            SquarePlanes x = Edges.full(1, Edges.STEEP, 24);
            for (int n = 23; n >= 0; n--) Edges.due("drop " + n, x.drop(n), n);
            Edges.due("WEIGHTS", x.many(9), 0);
            Edges.due("KEPT, all", x.many(3), 48);
        });
        Edges.edge("Promise 5: the others stay as they are", () -> {
            SquarePlanes x = Edges.withStations(1, new int[] {1, 2, 3, 1, 2}, new int[] {4, 5, 6, -1, 3});
            x.drop(0);
            dueDirection(x, 1, 4, 5, 6);
            Edges.due("SIGN and WEIGHT", x.ofStation(1, 3) * 10 + x.ofStation(1, 4), 3);
        });
        Edges.edge("Promise 6: no STATIONS, none became others", () -> {
            for (int how = 0; how < 4; how++) Edges.due("turn", new SquarePlanes().turn(how), 0);
        });
        Edges.edge("Promise 6: all 24 became others", () -> {
            for (int how = 0; how < 4; how++) Edges.due("turn " + how, Edges.full(1, Edges.STEEP, 12).turn(how), 24);
        });
        Edges.edge("Promise 6: DIRECTIONS that stay what they were are not counted", () -> {
            int[][] stay = {{-9, 0, 0}, {0, 9, 0}, {0, 0, -9}, {9, -9, 0}};
            for (int how = 0; how < 4; how++) {
                SquarePlanes x = new SquarePlanes();
                x.station(0, stay[how][0], stay[how][1], stay[how][2]);
                Edges.due("turn " + how, x.turn(how), 0);
                dueDirection(x, 0, stay[how]);
                x.station(23, 1, 2, 3);
                Edges.due("turn " + how + " of two", x.turn(how), 1);
            }
        });
        Edges.edge("Promise 6: a DIRECTION that is turned to its other way is another one", () ->
            Edges.due("the mirror", Edges.withStations(1, new int[] {0, 0, 1, 0, 1}).turn(3), 1));
        Edges.edge("Promise 6: a DIRECTION of which but one number becomes another is another one", () -> {
            int[][] from = {{1, 2, 2}, {3, 1, -3}, {2, 2, 5}, {4, 5, 6}};
            int[][] to = {{1, -2, 2}, {-3, 1, -3}, {-2, 2, 5}, {4, 5, -6}};
            int[][] third = {{1, 2, -2}, {3, 1, 3}, {2, -2, 5}, {0, 0, 1}};
            for (int how = 0; how < 4; how++) {
                SquarePlanes x = new SquarePlanes();
                x.station(0, from[how][0], from[how][1], from[how][2]);
                Edges.due("turn " + how, x.turn(how), 1);
                dueDirection(x, 0, to[how]);
                x.station(0, third[how][0], third[how][1], third[how][2]);
                Edges.due("turn " + how + ", the other number", x.turn(how), 1);
            }
        });
        Edges.edge("Promise 6: a STATION that is no more is not turned, nor counted", () -> {
            SquarePlanes x = Edges.withStations(1, new int[] {1, 2, 3, 1, 1}, new int[] {1, 2, 3, 1, 1});
            x.drop(0);
            for (int how = 0; how < 4; how++) Edges.due("turn", x.turn(how), 1);
        });
        Edges.edge("Promise 6: SIGN and WEIGHT stay, MISFITS follow", () -> {
            SquarePlanes x = Edges.withStations(1, new int[] {0, 5, 0, 1, 3});
            Edges.due("LIFTS ahead", x.solution(35, 0) * 10 + x.solution(35, 1), 3);
            x.turn(0);
            Edges.due("SIGN and WEIGHT", x.ofStation(0, 3) * 10 + x.ofStation(0, 4), 23);
            Edges.due("LIFTS behind", x.solution(35, 0) * 10 + x.solution(35, 1), 0);
            Edges.due("SINKS behind", x.solution(34, 0), 3);
        });
        Edges.edge("Promise 7: each number of a DIRECTION and 10, from -9 to 9", () -> {
            SquarePlanes x = new SquarePlanes();
            for (int v = -9; v <= 9; v++) {
                int other = v == 0 ? 1 : 0;
                x.station(0, v, other, -v);
                dueDirection(x, 0, v, other, -v);
            }
        });
        Edges.edge("Promise 7: against no KEPT ones, or all of one SENSE", () -> {
            SquarePlanes x = Edges.withStations(2, new int[] {9, 3, 1, 1, 4});
            Edges.due("none", x.ofStation(0, 5), 0);
            x.extra(3);
            Edges.due("one too few", x.ofStation(0, 5), 0);
            x.extra(4);
            Edges.due("all odd ones", x.ofStation(0, 5), 138);
        });
        Edges.edge("Promise 7: NODAL at no KEPT ones, or at all that SLIDE", () -> {
            Edges.due("none", Edges.withStations(2, new int[] {9, 3, 1, 1, 4}).ofStation(0, 6), 0);
            Edges.due("SLIDE by SIZE 1", Edges.withStations(1, new int[] {0, 0, 5, 1, 4}).ofStation(0, 6), 28);
            Edges.due("SLIDE by SIZE 2", Edges.withStations(2, new int[] {0, 0, 5, 1, 4}).ofStation(0, 6), 104);
        });
        Edges.edge("Promise 7: without a SIGN neither AGAINST nor NODAL", () -> {
            SquarePlanes x = Edges.withStations(2, new int[] {0, 0, 5, 0, 4}, new int[] {9, 3, 1, 0, 1});
            x.extra(9);
            for (int n = 0; n < 2; n++) Edges.due("STATION " + n, x.ofStation(n, 5) + x.ofStation(n, 6), 0);
        });
    }

    private static void promises8To13() {
        Edges.edge("Promise 8: what it was, for each SIZE to each", () -> {
            SquarePlanes x = new SquarePlanes();
            int was = 2;
            for (int v : new int[] {2, 1, 1, 2, 3, 3, 1, 3, 2}) {
                Edges.due("SIZE was", x.size(v), was);
                Edges.due("POLES", x.many(1), Edges.POLES[v]);
                Edges.due("PAIRS", x.many(2), Edges.PAIRS[v]);
                was = v;
            }
        });
        Edges.edge("Promise 8: STATIONS and EXTRA stay", () -> {
            SquarePlanes x = Edges.withStations(1, new int[] {9, 3, 1, 1, 4});
            x.extra(4);
            x.size(2);
            Edges.due("KEPT, all by EXTRA 4", x.many(3), 276);
            Edges.due("STATIONS", x.many(0), 1);
            Edges.due("EXTRA", x.extra(0), 4);
        });
        Edges.edge("Promise 8: a SIZE set again knows what changed meanwhile", () -> {
            SquarePlanes x = Edges.withStations(1, new int[] {9, 3, 1, 1, 4});
            Edges.due("the first of SIZE 1", x.kept(0), 0);
            x.size(2);
            x.sign(0, -1);
            Edges.due("the first of SIZE 2", x.kept(0), 1);
            x.size(1);
            Edges.due("the first of SIZE 1 again", x.kept(0), 1);
        });
        Edges.edge("Promise 9: what it was, for 0, 9 and between", () -> {
            SquarePlanes x = new SquarePlanes();
            int was = 0;
            for (int v : new int[] {0, 9, 9, 0, 1, 8, 0}) {
                Edges.due("EXTRA was", x.extra(v), was);
                was = v;
            }
        });
        Edges.edge("Promise 10: the first and last POLE of each SIZE, each number and 10", () -> {
            int[][] last = {{}, {1, 1, 1}, {2, 2, 1}, {3, 3, 2}};
            for (int size = 1; size <= 3; size++) {
                SquarePlanes x = Edges.ofSize(size);
                for (int i = 0; i < 3; i++) {
                    Edges.due("first", x.pole(0, i), i == 2 ? 11 : 10);
                    Edges.due("last", x.pole(Edges.POLES[size] - 1, i), last[size][i] + 10);
                }
            }
        });
        Edges.edge("Promise 10: the least and greatest number, -3 and 3", () -> {
            SquarePlanes x = Edges.ofSize(3);
            Edges.due("(0, 1, -3)", x.pole(49, 2), 7);
            Edges.due("(3, 3, 2)", x.pole(144, 0), 13);
        });
        Edges.edge("Promise 11: divided by what its numbers have in common, 9 at most", () -> {
            SquarePlanes x = Edges.ofSize(1);
            Edges.due("(0, 0, 9)", x.poleOf(0, 0, 9), 0);
            Edges.due("(-9, 0, 0)", x.poleOf(-9, 0, 0), 2);
            Edges.due("(9, 9, 9)", x.poleOf(9, 9, 9), 12);
            Edges.due("(-8, 0, 8)", x.poleOf(-8, 0, 8), 6);
        });
        Edges.edge("Promise 11: or the other way", () -> {
            SquarePlanes x = Edges.ofSize(2);
            for (int k = 0; k < 49; k++) {
                int a = x.pole(k, 0) - 10, b = x.pole(k, 1) - 10, c = x.pole(k, 2) - 10;
                Edges.due("POLE " + k, x.poleOf(a, b, c), k);
                Edges.due("POLE " + k + " the other way", x.poleOf(-a, -b, -c), k);
                Edges.due("POLE " + k + " by -4", x.poleOf(-4 * a, -4 * b, -4 * c), k);
            }
        });
        Edges.edge("Promise 11: NONE: it is none by this SIZE, but by the next", () -> {
            for (int size = 1; size <= 2; size++) {
                SquarePlanes x = Edges.ofSize(size);
                Edges.due("first", x.poleOf(size + 1, 1, 0), Edges.NONE);
                Edges.due("second", x.poleOf(1, -size - 1, 0), Edges.NONE);
                Edges.due("third", x.poleOf(0, 1, size + 1), Edges.NONE);
                x.size(size + 1);
                Edges.dueTrue("it is one by the next SIZE", x.poleOf(0, 1, size + 1) >= Edges.POLES[size]);
            }
            Edges.due("(4, 1, 0) is none by SIZE 3", Edges.ofSize(3).poleOf(4, 1, 0), Edges.NONE);
        });
        Edges.edge("Promise 11: NONE: the first POLE of the next SIZE, and the last", () -> {
            SquarePlanes x = Edges.ofSize(1);
            Edges.due("(0, 1, -2) by SIZE 1", x.poleOf(0, 1, -2), Edges.NONE);
            Edges.due("(2, 2, 1) by SIZE 1", x.poleOf(2, 2, 1), Edges.NONE);
            x.size(2);
            Edges.due("(0, 1, -2) by SIZE 2", x.poleOf(0, 1, -2), 13);
            Edges.due("(2, 2, 1) by SIZE 2", x.poleOf(2, 2, 1), 48);
            Edges.due("(0, 1, -3) by SIZE 2", x.poleOf(0, 1, -3), Edges.NONE);
            Edges.due("(3, 3, 2) by SIZE 2", x.poleOf(3, 3, 2), Edges.NONE);
            x.size(3);
            Edges.due("(0, 1, -3) by SIZE 3", x.poleOf(0, 1, -3), 49);
            Edges.due("(3, 3, 2) by SIZE 3", x.poleOf(3, 3, 2), 144);
        });
        Edges.edge("Promise 11: NONE: what is left when divided is still too great", () -> {
            Edges.due("(8, 2, 0)", Edges.ofSize(3).poleOf(8, 2, 0), Edges.NONE);
            Edges.due("(9, 9, 8)", Edges.ofSize(3).poleOf(9, 9, 8), Edges.NONE);
            Edges.due("(9, 6, 3) is (3, 2, 1)", Edges.ofSize(2).poleOf(9, 6, 3), Edges.NONE);
        });
        Edges.edge("Promise 12: the first and last PAIR of each SIZE, the lesser, the greater", () -> {
            int[][] last = {{}, {8, 10}, {44, 47}, {132, 139}};
            for (int size = 1; size <= 3; size++) {
                SquarePlanes x = Edges.ofSize(size);
                Edges.due("first", x.pair(0, 0) * 1000 + x.pair(0, 1), 1);
                int k = Edges.PAIRS[size] - 1;
                Edges.due("last", x.pair(k, 0) * 1000 + x.pair(k, 1), last[size][0] * 1000 + last[size][1]);
            }
        });
        promise13();
    }

    private static void promise13() {
        Edges.edge("Promise 13: the first and last PAIR of each SIZE, in either order", () -> {
            int[][] last = {{}, {8, 10}, {44, 47}, {132, 139}};
            for (int size = 1; size <= 3; size++) {
                SquarePlanes x = Edges.ofSize(size);
                Edges.due("first", x.pairOf(0, 1) + x.pairOf(1, 0), 0);
                Edges.due("last", x.pairOf(last[size][0], last[size][1]), Edges.PAIRS[size] - 1);
                Edges.due("last, other order", x.pairOf(last[size][1], last[size][0]), Edges.PAIRS[size] - 1);
            }
        });
        Edges.edge("Promise 13: NONE: a POLE with itself", () -> {
            SquarePlanes x = Edges.ofSize(3);
            for (int k = 0; k < 145; k++) Edges.due("POLE " + k, x.pairOf(k, k), Edges.NONE);
        });
        Edges.edge("Promise 13: NONE: two POLES that are not square, in either order", () -> {
            SquarePlanes x = Edges.ofSize(1);
            Edges.due("(0, 0, 1), (0, 1, -1)", x.pairOf(0, 3), Edges.NONE);
            Edges.due("(0, 1, -1), (0, 0, 1)", x.pairOf(3, 0), Edges.NONE);
            Edges.due("(1, 1, -1), (1, 1, 1)", x.pairOf(11, 12), Edges.NONE);
        });
        Edges.edge("Promise 13: every PAIR of POLES of SIZE 1, and none else", () -> {
            int[][] poles = polesOf(1);
            SquarePlanes x = Edges.ofSize(1);
            int next = 0;
            for (int a = 0; a < 13; a++) {
                for (int b = a; b < 13; b++) {
                    boolean square = a != b && Edges.dot(poles[a], poles[b]) == 0;
                    int want = square ? next++ : Edges.NONE;
                    Edges.due(a + ", " + b, x.pairOf(a, b), want);
                    Edges.due(b + ", " + a, x.pairOf(b, a), want);
                }
            }
        });
    }

    private static void promises14To17() {
        Edges.edge("Promise 14: 2 counts STATIONS, 0 their WEIGHTS", () -> {
            SquarePlanes x = Edges.withStations(1, new int[] {9, 3, 1, 1, 4}, new int[] {9, 3, 1, 1, 3},
                new int[] {9, 3, 1, -1, 2});
            Edges.due("even", x.solution(0, 0) * 10 + x.solution(0, 2), 21);
            Edges.due("odd", x.solution(1, 0) * 10 + x.solution(1, 2), 72);
        });
        Edges.edge("Promise 14: 4 its place from 0 on, to the last KEPT one", () -> {
            SquarePlanes x = fourKept();
            int[] order = {43, 15, 13, 9};
            for (int k = 0; k < 4; k++) Edges.due("place of " + order[k], x.solution(order[k], 4), k);
        });
        Edges.edge("Promise 14: 4 is NONE for each that is not KEPT", () -> {
            SquarePlanes x = oneKept();
            for (int s = 0; s < 48; s++) Edges.due("place of " + s, x.solution(s, 4), s == 8 ? 0 : Edges.NONE);
        });
        Edges.edge("Promise 14: 4 is NONE no more, when it is KEPT again", () -> {
            SquarePlanes x = Edges.withStations(1, new int[] {9, 3, 1, 1, 2});
            Edges.due("not KEPT", x.solution(47, 4), Edges.NONE);
            x.extra(2);
            Edges.due("KEPT as the last", x.solution(47, 4), 47);
            x.extra(1);
            Edges.due("not KEPT again", x.solution(47, 4), Edges.NONE);
        });
        Edges.edge("Promise 14: 4 with no STATIONS is its number", () -> {
            SquarePlanes x = new SquarePlanes();
            for (int s = 0; s < 276; s++) Edges.due("place of " + s, x.solution(s, 4), s);
        });
        Edges.edge("Promise 15: a triple and one that is longer or the other way have one SIGN", () -> {
            SquarePlanes x = Edges.ofSize(2);
            for (int s = 0; s < 276; s += 5) {
                int told = x.signAt(s, 1, -3, 2);
                Edges.due("longer, " + s, x.signAt(s, 3, -9, 6), told);
                Edges.due("other way, " + s, x.signAt(s, -3, 9, -6), told);
            }
        });
        Edges.edge("Promise 15: numbers -9 and 9", () -> {
            SquarePlanes x = Edges.ofSize(1);
            Edges.due("(9, 9, 9)", x.signAt(8, 9, 9, 9), 2);
            Edges.due("(-9, 9, -9)", x.signAt(8, -9, 9, -9), 0);
            Edges.due("(-9, -9, -9)", x.signAt(9, -9, -9, -9), 0);
        });
        Edges.edge("Promise 16: the k-th from 0, all of them and no more", () -> {
            for (int size = 1; size <= 3; size++) {
                SquarePlanes x = Edges.ofSize(size);
                int many = 2 * Edges.PAIRS[size];
                Edges.due("first", x.kept(0), 0);
                Edges.due("last", x.kept(many - 1), many - 1);
                Edges.due("one more", x.kept(many), Edges.UNKNOWN);
            }
        });
        Edges.edge("Promise 16: one KEPT alone", () -> {
            SquarePlanes x = oneKept();
            Edges.due("the only one", x.kept(0), 8);
            Edges.due("a second", x.kept(1), Edges.UNKNOWN);
        });
        Edges.edge("Promise 16: there are not so many, when EXTRA is less again", () -> {
            SquarePlanes x = Edges.withStations(1, new int[] {9, 3, 1, 1, 2});
            x.extra(9);
            Edges.due("the last of all", x.kept(47), 47);
            x.extra(0);
            Edges.due("the last of half", x.kept(23), 46);
            Edges.due("one more", x.kept(24), Edges.UNKNOWN);
        });
        Edges.edge("Promise 17: an AXIS with the greatest numbers, and 100", () -> {
            SquarePlanes x = Edges.ofSize(3);
            // PAIR 545, the last: its AXIS is (7, -12, 15).
            dueAxis(x, 1090, 7, -12, 15);
            dueAxis(x, 1091, 7, -12, 15);
        });
    }

    private static void promises18To20() {
        Edges.edge("Promise 18: of one SOLUTION with itself: 0 by 1", () -> {
            SquarePlanes x = Edges.ofSize(2);
            for (int s = 0; s < 276; s += 11) dueFraction(x, s, s, 0, 1);
        });
        Edges.edge("Promise 18: of both SENSES of a PAIR: 0 by 1", () -> dueFraction(Edges.ofSize(3), 1090, 1091, 0, 1));
        Edges.edge("Promise 18: in either order alike", () -> {
            SquarePlanes x = Edges.ofSize(3);
            for (int s = 0; s < 1092; s += 20) {
                int t = 1091 - s;
                Edges.due("upper", x.apart(s, t, 0), x.apart(t, s, 0));
                Edges.due("lower", x.apart(s, t, 1), x.apart(t, s, 1));
            }
        });
        Edges.edge("Promise 18: the greatest lower number, 418 times 418", () -> {
            // AXES (15, -12, -7) and (12, -15, 7): dot 311.
            SquarePlanes x = Edges.ofSize(3);
            int s = solutionOfAxis(15, -12, -7), t = solutionOfAxis(12, -15, 7);
            dueFraction(x, s, t, 78003, 174724);
        });
        Edges.edge("Promise 18: does not ask whether they are KEPT", () -> dueFraction(oneKept(), 0, 20, 1, 3));
        Edges.edge("Promise 19: SPREAD is there without STATIONS, and with all of them", () -> {
            dueSpread(new SquarePlanes(), 1, 1);
            dueSpread(Edges.full(1, Edges.STEEP, 24), 1, 1);
        });
        Edges.edge("Promise 19: SPREAD is 0 again, when but one is KEPT again", () -> {
            SquarePlanes x = oneThatSinks();
            dueSpread(x, 0, 1);
            x.extra(9);
            dueSpread(x, 1, 1);
            x.extra(0);
            dueSpread(x, 0, 1);
        });
        Edges.edge("Promise 20: CENTRE without STATIONS", () -> Edges.due("CENTRE", new SquarePlanes().centre(), 0));
        Edges.edge("Promise 20: CENTRE is a KEPT one, though lesser numbers are not", () -> {
            Edges.due("odd ones alone", Edges.full(1, Edges.STEEP, 0).centre(), 1);
            Edges.due("the last alone", threeKept().centre(), 40);
        });
        Edges.edge("Promise 20: CENTRE is found anew, when what is KEPT becomes other", () -> {
            SquarePlanes x = threeKept();
            Edges.due("of three", x.centre(), 40);
            x.drop(0);
            x.drop(1);
            x.drop(2);
            Edges.due("of all", x.centre(), 0);
        });
    }

    private static int solutionOfAxis(int a, int b, int c) {
        for (int k = 0; k < 546; k++) {
            SquarePlanes x = Edges.ofSize(3);
            if (x.axis(2 * k, 0) == a + 100 && x.axis(2 * k, 1) == b + 100 && x.axis(2 * k, 2) == c + 100) return 2 * k;
        }
        return -1;
    }

    private static void promises21And22() {
        Edges.edge("Promise 21: without the only STATION all are KEPT and LEAST is 0", () -> {
            SquarePlanes x = Edges.withStations(2, new int[] {9, 3, 1, 1, 4});
            Edges.due("LEAST", x.without(0, 0), 0);
            Edges.due("KEPT", x.without(0, 1), 276);
            Edges.due("KEPT with it", x.many(3), 138);
            Edges.due("it is still there", x.many(0) * 10 + x.ofStation(0, 3), 12);
        });
        Edges.edge("Promise 21: without one that has no SIGN nothing would be other", () -> {
            SquarePlanes x = Edges.withStations(1, new int[] {9, 3, 1, 1, 3}, new int[] {9, 3, 1, -1, 4},
                new int[] {0, 0, 5, 0, 4});
            Edges.due("LEAST", x.without(2, 0), 3);
            Edges.due("KEPT", x.without(2, 1), 24);
        });
        Edges.edge("Promise 21: without one that is NODAL at all KEPT ones there would be more", () -> {
            // Both lie on one line, up and down: only those that SLIDE have neither against them.
            SquarePlanes x = Edges.withStations(1, new int[] {0, 0, 5, 1, 2}, new int[] {0, 0, -5, -1, 2});
            Edges.due("LEAST", x.many(4), 0);
            Edges.due("KEPT, SLIDE", x.many(3), 28);
            Edges.due("without the one down", x.without(1, 1), 38);
            Edges.due("without the one up", x.without(0, 1), 38);
        });
        Edges.edge("Promise 21: of all 24, half up and half down", () -> {
            SquarePlanes x = Edges.full(2, Edges.STEEP, 12);
            for (int n : new int[] {0, 11, 12, 23}) Edges.due("LEAST without " + n, x.without(n, 0), 44);
            Edges.due("KEPT", x.without(0, 1), 138);
            x.extra(3);
            Edges.due("KEPT by EXTRA 3", x.without(0, 1), 138);
            x.extra(4);
            Edges.due("KEPT by EXTRA 4", x.without(0, 1), 276);
        });
        Edges.edge("Promise 21: is as when it is dropped, for each STATION", () -> {
            for (int n = 0; n < 4; n++) {
                SquarePlanes x = twoOfOneAxis();
                x.extra(1);
                int least = x.without(n, 0), kept = x.without(n, 1);
                x.drop(n);
                Edges.due("LEAST without " + n, least, x.many(4));
                Edges.due("KEPT without " + n, kept, x.many(3));
            }
        });
        Edges.edge("Promise 22: the only STATION the other way", () -> {
            for (int sign = -1; sign <= 1; sign += 2) {
                SquarePlanes x = Edges.withStations(2, new int[] {9, 3, 1, sign, 4});
                Edges.due("LEAST", x.turned(0, 0), 0);
                Edges.due("KEPT", x.turned(0, 1), 138);
                Edges.due("it is as it was", x.ofStation(0, 3), sign + 1);
                Edges.due("KEPT first", x.kept(0), sign == 1 ? 0 : 1);
            }
        });
        Edges.edge("Promise 22: one of all 24 the other way, of half up and half down", () -> {
            SquarePlanes x = Edges.full(2, Edges.STEEP, 12);
            for (int n : new int[] {0, 11, 12, 23}) Edges.due("LEAST with " + n, x.turned(n, 0), 44);
            x.extra(7);
            Edges.due("KEPT by EXTRA 7", x.turned(0, 1), 138);
            x.extra(8);
            Edges.due("KEPT by EXTRA 8", x.turned(0, 1), 276);
        });
        Edges.edge("Promise 22: the last of all 24 the other way, so that all 96 are against each odd one", () -> {
            SquarePlanes x = Edges.full(1, Edges.STEEP, 23);
            Edges.due("LEAST now", x.many(4), 4);
            Edges.due("LEAST", x.turned(23, 0), 0);
            Edges.due("KEPT", x.turned(23, 1), 24);
        });
        Edges.edge("Promise 22: LEAST can rise: one of all 24 the other way, where all are up", () -> {
            SquarePlanes x = Edges.full(1, Edges.STEEP, 24);
            Edges.due("LEAST now", x.many(4), 0);
            Edges.due("LEAST", x.turned(23, 0), 4);
            Edges.due("KEPT", x.turned(23, 1), 24);
        });
        Edges.edge("Promise 22: is as when its SIGN becomes the other, for each STATION", () -> {
            for (int n = 0; n < 4; n++) {
                SquarePlanes x = twoOfOneAxis();
                x.extra(1);
                int least = x.turned(n, 0), kept = x.turned(n, 1);
                x.sign(n, 1 - x.ofStation(n, 3));
                Edges.due("LEAST with " + n, least, x.many(4));
                Edges.due("KEPT with " + n, kept, x.many(3));
            }
        });
    }

    private static void promises23And24() {
        Edges.edge("Promise 23: SIGN -1, 0 and 1 of all, without STATIONS", () -> {
            int[] up = {0, 10, 86, 394}, level = {0, 28, 104, 304};
            for (int size = 1; size <= 3; size++) {
                SquarePlanes x = Edges.ofSize(size);
                Edges.due("down", x.foretold(0, 0, 9, -1), up[size]);
                Edges.due("neither", x.foretold(0, 0, 9, 0), level[size]);
                Edges.due("up", x.foretold(0, 0, -9, 1), up[size]);
            }
        });
        Edges.edge("Promise 23: none, or all KEPT ones", () -> {
            SquarePlanes x = Edges.full(2, Edges.STEEP, 24);
            Edges.due("up", x.foretold(9, 3, 1, 1), 138);
            Edges.due("neither", x.foretold(9, 3, 1, 0), 0);
            Edges.due("down", x.foretold(-9, -3, -1, -1), 0);
        });
        Edges.edge("Promise 23: the three SIGNS together are all KEPT ones", () -> {
            SquarePlanes x = fourKept();
            for (int a = -9; a <= 9; a += 3) {
                for (int b = -9; b <= 9; b += 3) {
                    int all = x.foretold(a, b, 9, -1) + x.foretold(a, b, 9, 0) + x.foretold(a, b, 9, 1);
                    Edges.due("at " + a + ", " + b + ", 9", all, 4);
                }
            }
        });
        Edges.edge("Promise 24: each number without STATIONS, by each SIZE", () -> {
            int[][] want = {{}, {0, 13, 24, 48, 0, 21, 10, 10, 28, 0}, {0, 49, 138, 276, 0, 109, 86, 86, 104, 0},
                {0, 145, 546, 1092, 0, 493, 394, 394, 304, 0}};
            for (int size = 1; size <= 3; size++) {
                SquarePlanes x = Edges.ofSize(size);
                for (int what = 0; what < 10; what++) Edges.due("many " + what, x.many(what), want[size][what]);
            }
        });
        Edges.edge("Promise 24: each number with all STATIONS", () -> {
            SquarePlanes x = Edges.full(1, Edges.STEEP, 12);
            int[] want = {24, 13, 24, 48, 48, 21, 10, 10, 28, 96};
            for (int what = 0; what < 10; what++) Edges.due("many " + what, x.many(what), want[what]);
        });
        Edges.edge("Promise 24: 5 unlike AXES, of two KEPT ones with one AXIS", () -> {
            Edges.due("one AXIS", twoOfOneAxis().many(5), 1);
            Edges.due("three AXES", threeKept().many(5), 3);
        });
        Edges.edge("Promise 24: 6, 7, 8 none of a KIND", () -> {
            SquarePlanes x = Edges.withStations(1, new int[] {0, 0, 5, 1, 3});
            Edges.due("LIFT", x.many(6), 10);
            Edges.due("SINK, none", x.many(7), 0);
            Edges.due("SLIDE", x.many(8), 28);
            x.sign(0, -1);
            Edges.due("LIFT, none", x.many(6), 0);
            Edges.due("SINK", x.many(7), 10);
            Edges.due("one that SLIDES alone", oneKept().many(6) + oneKept().many(7) + 10 * oneKept().many(8), 10);
            SquarePlanes y = oneThatSinks();
            dueKept(y, 42);
            Edges.due("one that SINKS alone", y.many(6) + y.many(8) + 10 * y.many(7), 10);
        });
        Edges.edge("Promise 24: 9 WEIGHTS of STATIONS with a SIGN other than 0, none and all", () -> {
            SquarePlanes x = Edges.withStations(1, new int[] {9, 3, 1, 0, 4}, new int[] {9, 3, 1, 0, 3});
            Edges.due("none has a SIGN", x.many(9), 0);
            x.sign(0, -1);
            Edges.due("one has", x.many(9), 4);
            x.sign(1, 1);
            Edges.due("both have", x.many(9), 7);
            x.drop(0);
            Edges.due("one is no more", x.many(9), 3);
        });
    }

    public static void main(String[] args) {
        callsOfAnObject();
        termsOfRefusals();
        termsOfStations();
        termsOfPoles();
        termsOfSolutions();
        termsOfMisfits();
        termsOfKeptOnes();
        termsOfAxes();
        termsOfSpreadAndCentre();
        termsOfTurns();
        promises1To4();
        changesAreSeen();
        promises5To7();
        promises8To13();
        promises14To17();
        promises18To20();
        promises21And22();
        promises23And24();
        Edges.end();
    }
}
