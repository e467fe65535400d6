import java.util.ArrayList;
import java.util.List;
import java.util.Random;

/** Promises 12, 20 and 28: log, ring and waste. */
public final class CutTest {
    private static final Check c = new Check("CutTest");

    public static void main(String[] args) {
        wrongLogs();
        noFamilyMay();
        lentPatternsOnly();
        mostWorth();
        fewestRings();
        firstParting();
        flaws();
        fullLength();
        thirtyLogs();
        roomForRings();
        allWays();
        c.end();
    }

    /** One family that owns kinds of {width, slices, worth}. */
    private static Village village(int[]... kinds) {
        Village v = new Village();
        v.family(1, false);
        for (int k = 0; k < kinds.length; k++) {
            v.kind(kinds[k][0], kinds[k][1], kinds[k][2]);
            v.own(0, k);
        }
        return v;
    }

    /** Looks at the rings from a number on: pairs of first unit and kind. */
    private static void rings(Village v, int from, int log, int... unitsAndKinds) {
        int many = unitsAndKinds.length / 2;
        c.due("count(3)", v.count(3), from + many);
        for (int i = 0; i < many; i++) {
            String name = "ring(" + (from + i) + ", ";
            c.due(name + "0)", v.ring(from + i, 0), log);
            c.due(name + "1)", v.ring(from + i, 1), unitsAndKinds[2 * i]);
            c.due(name + "2)", v.ring(from + i, 2), unitsAndKinds[2 * i + 1]);
            c.due(name + "3)", v.ring(from + i, 3), -1);
            c.due(name + "4)", v.ring(from + i, 4), -1);
            c.due(name + "5)", v.ring(from + i, 5), -1);
            c.due(name + "-1)", v.ring(from + i, -1), -1);
        }
        c.due("ring(-1, 0)", v.ring(-1, 0), -1);
        c.due("ring beyond", v.ring(from + many, 0), -1);
    }

    private static void wrongLogs() {
        Village v = village(new int[] {1, 1, 1});
        int[] lengths = {0, -1, 61, Integer.MIN_VALUE, Integer.MAX_VALUE, 64, 65};
        for (int length : lengths) {
            c.due("log(" + length + ", 0)", v.log(length, 0), -1);
        }
        c.due("log(5, 1 << 5)", v.log(5, 32), -1);
        c.due("log(5, all above)", v.log(5, Long.MAX_VALUE), -1);
        c.due("log(5, -1)", v.log(5, -1), -1);
        c.due("log(5, min)", v.log(5, Long.MIN_VALUE), -1);
        c.due("log(60, min)", v.log(60, Long.MIN_VALUE), -1);
        c.due("log(60, 1 << 60)", v.log(60, 1L << 60), -1);
        c.due("count(2)", v.count(2), 0);
        c.due("count(3)", v.count(3), 0);
        c.due("log(5, 1 << 4)", v.log(5, 16), 0);
        c.due("waste(0)", v.waste(0), 1);
        c.due("waste(1)", v.waste(1), -1);
        c.due("waste(-1)", v.waste(-1), -1);
        c.due("log(60, 1 << 59)", v.log(60, 1L << 59), 1);
        c.due("waste(1)", v.waste(1), 1);
    }

    private static void noFamilyMay() {
        Village v = new Village();
        v.kind(1, 1, 1);
        v.family(1, false);
        c.due("log(4, 0)", v.log(4, 0), 0);
        c.due("count(3)", v.count(3), 0);
        c.due("waste(0)", v.waste(0), 4);
    }

    private static void lentPatternsOnly() {
        Village v = new Village();
        v.kind(2, 1, 5);
        v.kind(1, 1, 1);
        v.family(1, false);
        v.family(1, false);
        v.own(1, 1);
        v.log(2, 0);
        rings(v, 0, 0, 0, 1, 1, 1);
        v.own(0, 0);
        v.lend(0, 1, 0, 1);
        v.log(2, 0);
        rings(v, 2, 1, 0, 0);
    }

    private static void mostWorth() {
        // 7 units: 3 + 2 + 2 with 10 + 7 + 7 is more than 3 + 3 or 2 + 2 + 2.
        Village v = village(new int[] {3, 2, 5}, new int[] {2, 1, 7});
        v.log(7, 0);
        rings(v, 0, 0, 0, 0, 3, 1, 5, 1);
        c.due("waste(0)", v.waste(0), 0);
        // The worth of all figures of a ring counts: 4 * 2 is more than 7.
        v = village(new int[] {3, 1, 7}, new int[] {3, 4, 2});
        v.log(3, 0);
        rings(v, 0, 0, 0, 1);
        // Being greedy by worth per ring is not the most: 5 alone has 9, 3 + 3 has 10.
        v = village(new int[] {5, 1, 9}, new int[] {3, 1, 5});
        v.log(6, 0);
        rings(v, 0, 0, 0, 1, 3, 1);
    }

    private static void fewestRings() {
        Village v = village(new int[] {1, 1, 2}, new int[] {2, 1, 4}, new int[] {4, 1, 8});
        v.log(7, 0);
        rings(v, 0, 0, 0, 0, 1, 1, 3, 2);
        // What has no worth is not cut.
        v = village(new int[] {1, 12, 0});
        v.log(9, 0);
        rings(v, 0, 0);
        c.due("waste(0)", v.waste(0), 9);
    }

    private static void firstParting() {
        // A ring ahead of a unit left out.
        Village v = village(new int[] {3, 1, 5});
        v.log(5, 0);
        rings(v, 0, 0, 0, 0);
        c.due("waste(0)", v.waste(0), 2);
        v.log(8, 0);
        rings(v, 1, 1, 0, 0, 3, 0);
        // The lesser kind, though it is the narrower one, or the wider one.
        v = village(new int[] {2, 1, 6}, new int[] {3, 1, 6});
        v.log(3, 0);
        rings(v, 0, 0, 0, 0);
        v = village(new int[] {3, 1, 6}, new int[] {2, 1, 6});
        v.log(3, 0);
        rings(v, 0, 0, 0, 0);
        v = village(new int[] {3, 1, 6}, new int[] {2, 1, 5});
        v.log(5, 0);
        rings(v, 0, 0, 0, 0, 3, 1);
        v = village(new int[] {2, 1, 5}, new int[] {3, 1, 6});
        v.log(5, 0);
        rings(v, 0, 0, 0, 0, 2, 1);
        // The lesser of two kinds alike.
        v = village(new int[] {9, 1, 1}, new int[] {2, 2, 3}, new int[] {2, 3, 2});
        v.log(4, 0);
        rings(v, 0, 0, 0, 1, 2, 1);
    }

    private static void flaws() {
        Village v = village(new int[] {3, 1, 5}, new int[] {2, 1, 2});
        v.log(7, 0b0000100);
        rings(v, 0, 0, 0, 1, 3, 0);
        c.due("waste(0)", v.waste(0), 2);
        v.log(3, 0b111);
        c.due("waste(1)", v.waste(1), 3);
        v.log(3, 0b100);
        rings(v, 2, 2, 0, 1);
        v.log(3, 0b001);
        rings(v, 3, 3, 1, 1);
        v.log(3, 0b010);
        c.due("waste(4)", v.waste(4), 3);
    }

    private static void fullLength() {
        Village v = village(new int[] {9, 1, 9}, new int[] {1, 12, 100});
        c.due("log(60, 0)", v.log(60, 0), 0);
        c.due("count(3)", v.count(3), 60);
        c.due("ring(59, 1)", v.ring(59, 1), 59);
        c.due("waste(0)", v.waste(0), 0);
        c.due("all flaws", v.log(60, (1L << 60) - 1), 1);
        c.due("waste(1)", v.waste(1), 60);
        v = village(new int[] {9, 1, 9});
        v.log(60, 1L << 35);
        rings(v, 0, 0, 0, 0, 9, 0, 18, 0, 36, 0, 45, 0);
    }

    private static void thirtyLogs() {
        Village v = village();
        for (int i = 0; i < 30; i++) {
            c.due("log " + i, v.log(i + 1, 0), i);
        }
        c.due("log 30", v.log(1, 0), -1);
        c.due("count(2)", v.count(2), 30);
        c.due("waste(29)", v.waste(29), 30);
        c.due("waste(30)", v.waste(30), -1);
    }

    private static void roomForRings() {
        Village v = village(new int[] {1, 1, 1});
        for (int i = 0; i < 3; i++) {
            v.log(60, 0);
        }
        c.due("log of 21 rings", v.log(21, 0), -1);
        c.due("count(2)", v.count(2), 3);
        c.due("count(3)", v.count(3), 180);
        c.due("waste(3)", v.waste(3), -1);
        c.due("log of 20 rings and a flaw", v.log(21, 2), 3);
        c.due("count(3)", v.count(3), 200);
        c.due("log of 1 ring", v.log(1, 0), -1);
        c.due("log of no ring", v.log(1, 1), 4);
        c.due("ring(199, 1)", v.ring(199, 1), 20);
        c.due("ring(199, 0)", v.ring(199, 0), 3);
        c.due("ring(200, 0)", v.ring(200, 0), -1);
        c.due("count(4)", v.count(4), 200);
    }

    /** Small logs against a look at each and every way. */
    private static void allWays() {
        Random random = new Random(7);
        for (int round = 0; round < 300; round++) {
            int[][] kinds = new int[1 + random.nextInt(4)][];
            for (int k = 0; k < kinds.length; k++) {
                kinds[k] = new int[] {1 + random.nextInt(4), 1 + random.nextInt(3), random.nextInt(4)};
            }
            int length = 1 + random.nextInt(9);
            long flaws = random.nextInt(1 << length) & random.nextInt(1 << length);
            List<Integer> best = new Ways(kinds, length, flaws).best;
            Village v = village(kinds);
            v.log(length, flaws);
            int ring = 0;
            int unit = 0;
            int waste = 0;
            for (int step : best) {
                if (step == Ways.OUT) {
                    waste++;
                    unit++;
                } else {
                    c.due("ring of the best way, unit", v.ring(ring, 1), unit);
                    c.due("ring of the best way, kind", v.ring(ring, 2), step);
                    unit += kinds[step][0];
                    ring++;
                }
            }
            c.due("rings of the best way", v.count(3), ring);
            c.due("waste of the best way", v.waste(0), waste);
        }
    }

    private static final class Ways {
        static final int OUT = 99;
        private final int[][] kinds;
        private final int length;
        private final long flaws;
        private List<Integer> best = null;

        Ways(int[][] kinds, int length, long flaws) {
            this.kinds = kinds;
            this.length = length;
            this.flaws = flaws;
            walk(new ArrayList<>(), 0);
        }

        private void walk(List<Integer> way, int unit) {
            if (unit == length) {
                if (best == null || isBetter(way, best)) {
                    best = new ArrayList<>(way);
                }
                return;
            }
            for (int k = 0; k < kinds.length; k++) {
                if (isSound(unit, kinds[k][0])) {
                    way.add(k);
                    walk(way, unit + kinds[k][0]);
                    way.remove(way.size() - 1);
                }
            }
            way.add(OUT);
            walk(way, unit + 1);
            way.remove(way.size() - 1);
        }

        private boolean isSound(int unit, int width) {
            for (int u = unit; u < unit + width; u++) {
                if (u >= length || (flaws >> u & 1) != 0) {
                    return false;
                }
            }
            return true;
        }

        private boolean isBetter(List<Integer> a, List<Integer> b) {
            if (worth(a) != worth(b)) {
                return worth(a) > worth(b);
            }
            if (rings(a) != rings(b)) {
                return rings(a) < rings(b);
            }
            for (int i = 0; i < Math.min(a.size(), b.size()); i++) {
                if (!a.get(i).equals(b.get(i))) {
                    return a.get(i) < b.get(i);
                }
            }
            return false;
        }

        private int worth(List<Integer> way) {
            int all = 0;
            for (int step : way) {
                all += step == OUT ? 0 : kinds[step][1] * kinds[step][2];
            }
            return all;
        }

        private int rings(List<Integer> way) {
            int all = 0;
            for (int step : way) {
                all += step == OUT ? 0 : 1;
            }
            return all;
        }
    }
}
