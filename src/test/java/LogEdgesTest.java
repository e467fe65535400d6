/** Promises 12, 20 and 28: the edges of log, ring and waste. */
public final class LogEdgesTest {
    private static final Check c = new Check("LogEdgesTest");
    private static final int MIN = Integer.MIN_VALUE;
    private static final int MAX = Integer.MAX_VALUE;

    public static void main(String[] args) {
        lengths();
        flawsBeyond();
        thirtyLogs();
        roomForRings();
        withoutFlaw();
        withinTheLog();
        someFamilyMay();
        mostWorth();
        fewestRings();
        partFirst();
        ringEdges();
        wasteEdges();
        c.end();
    }

    private static Untouched busy() {
        return new Untouched(c, Scenes::busy);
    }

    /** One family that owns kinds of {width, slices, worth}. */
    private static Village village(int[]... kinds) {
        Village v = new Village();
        v.family(1, false);
        for (int k = 0; k < kinds.length; k++) {
            v.kind(kinds[k][0], kinds[k][1], kinds[k][2]);
            v.own(0, k);
        }
        return v;
    }

    private static int[] kind(int width, int slices, int worth) {
        return new int[] {width, slices, worth};
    }

    /** The rings that the first log of a village is cut to: pairs of first unit and kind. */
    private static void cut(Village v, int length, long flaws, int... unitsAndKinds) {
        String log = "log(" + length + ", " + Long.toBinaryString(flaws) + ")";
        c.due(log, v.log(length, flaws), 0);
        c.due("count(3) of " + log, v.count(3), unitsAndKinds.length / 2);
        for (int r = 0; r < unitsAndKinds.length / 2; r++) {
            c.due("ring(" + r + ", 1) of " + log, v.ring(r, 1), unitsAndKinds[2 * r]);
            c.due("ring(" + r + ", 2) of " + log, v.ring(r, 2), unitsAndKinds[2 * r + 1]);
        }
    }

    private static void lengths() {
        c.sentence("Terms I: a LENGTH (1 .. 60 units); Promise 12: NONE, and nothing happens: no such LENGTH");
        for (int length = 1; length <= 60; length++) {
            Village v = village(kind(1, 1, 1));
            c.due("log(" + length + ", 0)", v.log(length, 0), 0);
            c.due("count(3)", v.count(3), length);
            c.due("the last ring", v.ring(length - 1, 1), length - 1);
            c.due("waste(0)", v.waste(0), 0);
        }
        for (int length : new int[] {0, -1, 61, 62, 63, 64, 65, 128, MIN, MAX}) {
            busy().by("log(" + length + ", 0)", v -> v.log(length, 0), -1);
            busy().by("log(" + length + ", 1)", v -> v.log(length, 1), -1);
        }
    }

    private static void flawsBeyond() {
        c.sentence("Promise 12: NONE, and nothing happens: a flaw beyond it (FLAWS below 0, too)");
        for (int length = 1; length <= 60; length++) {
            Village v = village(kind(1, 1, 1));
            for (int unit = length; unit < 64; unit++) {
                c.due("log(" + length + ", flaw " + unit + ")", v.log(length, 1L << unit), -1);
            }
            c.due("a flaw within and one beyond", v.log(length, 1L << length | 1), -1);
            c.due("all flaws", v.log(length, -1L), -1);
            c.due("count(2)", v.count(2), 0);
            c.due("a flaw at the last unit", v.log(length, 1L << length - 1), 0);
            c.due("waste(0)", v.waste(0), 1);
            c.due("flaws at all units", v.log(length, (1L << length) - 1), 1);
            c.due("waste(1)", v.waste(1), length);
        }
        long[] beyond = {1L << 5, 1L << 6, 1L << 31, 1L << 32, 1L << 37, 1L << 62, Long.MAX_VALUE, -1, Long.MIN_VALUE, Long.MIN_VALUE + 1};
        for (long flaws : beyond) {
            busy().by("log(5, " + flaws + ")", v -> v.log(5, flaws), -1);
        }
        for (long flaws : new long[] {1L << 60, 1L << 62, -1, Long.MIN_VALUE, Long.MAX_VALUE}) {
            busy().by("log(60, " + flaws + ")", v -> v.log(60, flaws), -1);
        }
    }

    private static void thirtyLogs() {
        c.sentence("Terms I: LOGS, 30 at most; Promise 12: NONE, and nothing happens: 30 are there");
        Village v = village(kind(2, 1, 1));
        for (int log = 0; log < 30; log++) {
            c.due("count(2)", v.count(2), log);
            c.due("a wrong one ahead", v.log(0, 0), -1);
            c.due("log " + log, v.log(3, 0), log);
        }
        c.due("count(2)", v.count(2), 30);
        c.due("a 31st", v.log(3, 0), -1);
        c.due("a 31st without a ring", v.log(1, 0), -1);
        c.due("count(2)", v.count(2), 30);
        c.due("count(3)", v.count(3), 30);
        c.due("ring(29, 0)", v.ring(29, 0), 29);
        c.due("waste(29)", v.waste(29), 1);
        Untouched u = new Untouched(c, x -> {
            Scenes.busy(x);
            for (int i = 0; i < 28; i++) {
                x.log(2 + i % 3, 0);
            }
        });
        u.by("a 31st", x -> x.log(2, 0), -1);
        u.by("a 31st without a ring", x -> x.log(1, 1), -1);
    }

    private static void roomForRings() {
        c.sentence("Terms I: a LOG that would have more RINGS than there is room for is none; Promise 12: no room for its RINGS.");
        for (int room : new int[] {0, 1, 5, 20}) {
            Village v = village(kind(1, 1, 1));
            v.log(60, 0);
            v.log(60, 0);
            v.log(60, 0);
            c.due("log with a flaw for each ring that has room", v.log(20, (1L << room) - 1), 3);
            c.due("log of one ring too many", v.log(room + 1, 0), -1);
            c.due("count(2)", v.count(2), 4);
            c.due("count(3)", v.count(3), 200 - room);
            c.due("count(4)", v.count(4), 200 - room);
            c.due("waste(4)", v.waste(4), -1);
            c.due("ring(" + (200 - room) + ", 0)", v.ring(200 - room, 0), -1);
            c.due("as many as there is room for, and a flaw", v.log(room + 1, 1), 4);
            c.due("count(3)", v.count(3), 200);
            c.due("one ring more", v.log(1, 0), -1);
            c.due("no ring more", v.log(7, (1L << 7) - 1), 5);
            c.due("count(3)", v.count(3), 200);
            c.due("waste(5)", v.waste(5), 7);
        }
        Village v = village(kind(1, 1, 1));
        v.log(60, 0);
        v.log(60, 0);
        v.log(60, 0);
        c.due("give()", v.give(), 180);
        c.due("those that are given count, too", v.log(21, 0), -1);
        c.due("the last 20", v.log(20, 0), 3);
        Untouched u = new Untouched(c, x -> {
            Scenes.busy(x);
            for (int i = 0; i < 3; i++) {
                x.kind(1, 1, 100);
            }
            x.own(2, 5);
            for (int i = 0; i < 3; i++) {
                x.log(60, 0);
            }
        });
        u.by("log of more rings than there is room for", x -> x.log(60, 0), -1);
        u.by("log with flaws of more rings than there is room for", x -> x.log(60, 3), -1);
    }

    private static void withoutFlaw() {
        c.sentence("Terms I: which takes its WIDTH, has no flaw");
        cut(village(kind(3, 1, 1)), 5, 0b00000, 0, 0);
        cut(village(kind(3, 1, 1)), 5, 0b00001, 1, 0);
        cut(village(kind(3, 1, 1)), 5, 0b00010, 2, 0);
        cut(village(kind(3, 1, 1)), 5, 0b00100);
        cut(village(kind(3, 1, 1)), 5, 0b01000, 0, 0);
        cut(village(kind(3, 1, 1)), 5, 0b10000, 0, 0);
        cut(village(kind(3, 1, 1)), 5, 0b10001, 1, 0);
        cut(village(kind(3, 1, 1)), 5, 0b10010);
        cut(village(kind(1, 1, 1)), 5, 0b10101, 1, 0, 3, 0);
        cut(village(kind(1, 1, 1)), 5, 0b11111);
        // Flaws of the higher half of a long.
        cut(village(kind(9, 1, 1)), 60, (1L << 51) - 1, 51, 0);
        cut(village(kind(9, 1, 1)), 60, (1L << 52) - 1);
        cut(village(kind(9, 1, 1)), 60, (1L << 50) - 1 | 1L << 59, 50, 0);
        cut(village(kind(9, 1, 1)), 60, (1L << 51) - 1 | 1L << 59);
        cut(village(kind(9, 1, 1)), 60, 1L << 4 | 1L << 14 | 1L << 24 | 1L << 34 | 1L << 44 | 1L << 54,
                5, 0, 15, 0, 25, 0, 35, 0, 45, 0);
        cut(village(kind(1, 1, 1)), 60, (1L << 60) - 1 & ~(1L << 31 | 1L << 32), 31, 0, 32, 0);
    }

    private static void withinTheLog() {
        c.sentence("Terms I: and is within the log");
        cut(village(kind(5, 1, 1)), 4, 0);
        cut(village(kind(5, 1, 1)), 5, 0, 0, 0);
        cut(village(kind(5, 1, 1)), 9, 0, 0, 0);
        cut(village(kind(5, 1, 1)), 10, 0, 0, 0, 5, 0);
        cut(village(kind(9, 1, 1)), 60, 0, 0, 0, 9, 0, 18, 0, 27, 0, 36, 0, 45, 0);
        cut(village(kind(9, 1, 100), kind(2, 1, 1)), 8, 0, 0, 1, 2, 1, 4, 1, 6, 1);
        cut(village(kind(9, 1, 100), kind(6, 1, 1)), 60, 0, 0, 0, 9, 0, 18, 0, 27, 0, 36, 0, 45, 0, 54, 1);
    }

    private static void someFamilyMay() {
        c.sentence("Terms I: a ring of a KIND that some FAMILY MAY CARVE now");
        Village v = new Village();
        v.kind(1, 1, 5);
        v.kind(1, 1, 3);
        v.log(2, 0);
        c.due("count(3) without a family", v.count(3), 0);
        v.family(1, false);
        v.family(1, false);
        v.log(2, 0);
        c.due("count(3) without a pattern", v.count(3), 0);
        v.own(1, 1);
        v.log(2, 0);
        c.due("count(3) with one", v.count(3), 2);
        c.due("ring(1, 2)", v.ring(1, 2), 1);
        v.own(1, 0);
        v.lend(1, 0, 0, 1);
        v.log(2, 0);
        c.due("ring(2, 2) with two", v.ring(2, 2), 0);
        c.due("what was cut stays", v.ring(1, 2), 1);
        // The last of eight kinds, owned by the last of eight families.
        v = new Village();
        for (int i = 0; i < 8; i++) {
            v.kind(1, 1, 100 - i);
            v.family(1, false);
        }
        v.own(7, 7);
        cut(v, 1, 0, 0, 7);
    }

    private static void mostWorth() {
        c.sentence("Terms I: Of all ways that by which the WORTHS of all figures together are the most");
        cut(village(kind(1, 1, 99), kind(1, 1, 100)), 1, 0, 0, 1);
        cut(village(kind(1, 2, 50), kind(1, 1, 99)), 1, 0, 0, 0);
        cut(village(kind(1, 1, 100), kind(1, 12, 9)), 1, 0, 0, 1);
        cut(village(kind(2, 1, 5), kind(1, 1, 3)), 2, 0, 0, 1, 1, 1);
        cut(village(kind(2, 1, 7), kind(1, 1, 3)), 2, 0, 0, 0);
        cut(village(kind(4, 1, 9), kind(3, 1, 5)), 6, 0, 0, 1, 3, 1);
        cut(village(kind(4, 1, 9), kind(3, 1, 5)), 7, 0, 0, 0, 4, 1);
        cut(village(kind(3, 1, 5)), 4, 1, 1, 0);
        // The most that there can be: 60 rings of 12 figures of 100.
        cut(village(kind(9, 12, 100), kind(1, 12, 100)), 9, 0, 0, 1, 1, 1, 2, 1, 3, 1, 4, 1, 5, 1, 6, 1, 7, 1, 8, 1);
        c.sentence("Terms I: or one unit is left out; and so on.");
        cut(village(kind(2, 1, 1), kind(4, 1, 9)), 5, 0b00000, 0, 1);
        cut(village(kind(3, 1, 4), kind(4, 1, 9)), 6, 0b000001, 1, 1);
        cut(village(kind(3, 1, 4), kind(5, 1, 9)), 6, 0b000000, 0, 1);
        cut(village(kind(2, 1, 1)), 12, 0b000110001001, 1, 0, 4, 0, 9, 0);
    }

    private static void fewestRings() {
        c.sentence("Terms I: of these the fewest rings");
        cut(village(kind(1, 1, 2), kind(2, 1, 4)), 2, 0, 0, 1);
        cut(village(kind(1, 1, 2), kind(2, 1, 4)), 3, 0, 0, 0, 1, 1);
        cut(village(kind(1, 1, 1), kind(3, 1, 3), kind(2, 1, 2)), 5, 0, 0, 1, 3, 2);
        cut(village(kind(1, 1, 0)), 5, 0);
        cut(village(kind(1, 12, 0), kind(2, 1, 1)), 3, 0, 0, 1);
        cut(village(kind(5, 1, 0), kind(1, 1, 0)), 60, 0);
        // One ring of a greater kind ahead of two of a lesser one.
        cut(village(kind(2, 1, 5), kind(3, 2, 5)), 5, 0b00000, 0, 0, 2, 1);
        cut(village(kind(2, 1, 5), kind(4, 2, 5)), 4, 0, 0, 1);
    }

    private static void partFirst() {
        c.sentence("Terms I: of these, where they part first, a ring ahead of a unit left out");
        cut(village(kind(2, 1, 5)), 3, 0, 0, 0);
        cut(village(kind(2, 1, 5)), 5, 0, 0, 0, 2, 0);
        cut(village(kind(4, 1, 5), kind(2, 1, 5)), 5, 0, 0, 1, 2, 1);
        cut(village(kind(4, 1, 5), kind(3, 1, 5)), 5, 0, 0, 0);
        cut(village(kind(3, 1, 5), kind(4, 1, 5)), 5, 0, 0, 0);
        cut(village(kind(3, 1, 5)), 8, 0b00001000, 0, 0, 4, 0);
        c.sentence("Terms I: of the lesser KIND.");
        cut(village(kind(1, 1, 6), kind(1, 2, 3), kind(1, 3, 2)), 2, 0, 0, 0, 1, 0);
        cut(village(kind(2, 1, 6), kind(1, 1, 6)), 1, 0, 0, 1);
        cut(village(kind(2, 1, 5), kind(3, 1, 5)), 5, 0, 0, 0, 2, 0);
        cut(village(kind(3, 1, 5), kind(2, 1, 5)), 5, 0, 0, 0, 3, 1);
        cut(village(kind(2, 1, 5), kind(3, 1, 6)), 5, 0, 0, 0, 2, 1);
        cut(village(kind(3, 1, 6), kind(2, 1, 5)), 5, 0, 0, 0, 3, 1);
        Village v = new Village();
        v.family(1, false);
        for (int k = 0; k < 8; k++) {
            v.kind(1, 1, 6);
        }
        v.own(0, 7);
        v.own(0, 6);
        cut(v, 1, 0, 0, 6);
    }

    private static void ringEdges() {
        c.sentence("Promise 20: Of a RING: .. NONE for others.");
        c.due("ring(0, 0) without one", new Village().ring(0, 0), -1);
        int rings = 8;
        Village w = new Village();
        Scenes.busy(w);
        c.due("count(3) of the scene", w.count(3), rings);
        for (int none : new int[] {-1, rings, 200, 201, MIN, MAX}) {
            for (int what = 0; what < 5; what++) {
                c.due("ring(" + none + ", " + what + ")", w.ring(none, what), -1);
            }
            busy().by("ring(" + none + ", 0)", v -> v.ring(none, 0), -1);
        }
        for (int what : new int[] {-1, 5, 6, MIN, MAX}) {
            for (int r = 0; r < rings; r++) {
                c.due("ring(" + r + ", " + what + ")", w.ring(r, what), -1);
            }
            busy().by("ring(0, " + what + ")", v -> v.ring(0, what), -1);
        }
        c.sentence("Promise 20: 3: FAMILY (NONE: it waits), 4: first FIGURE (NONE)");
        Village v = village(kind(1, 12, 1));
        for (int i = 0; i < 4; i++) {
            v.log(i < 3 ? 60 : 20, 0);
        }
        c.due("ring(199, 0)", v.ring(199, 0), 3);
        c.due("ring(199, 1)", v.ring(199, 1), 19);
        c.due("ring(199, 2)", v.ring(199, 2), 0);
        c.due("ring(199, 3)", v.ring(199, 3), -1);
        c.due("ring(199, 4)", v.ring(199, 4), -1);
        c.due("ring(0, 4)", v.ring(0, 4), -1);
        c.due("ring(200, 0)", v.ring(200, 0), -1);
        c.due("give()", v.give(), 33);
        c.due("ring(0, 3)", v.ring(0, 3), 0);
        c.due("ring(0, 4)", v.ring(0, 4), 0);
        c.due("ring(32, 4)", v.ring(32, 4), 384);
        c.due("ring(33, 3)", v.ring(33, 3), -1);
        c.due("ring(33, 4)", v.ring(33, 4), -1);
    }

    private static void wasteEdges() {
        c.sentence("Promise 28: The units of a LOG that are in no RING; NONE: there is none such.");
        c.due("waste(0) without one", new Village().waste(0), -1);
        for (int none : new int[] {-1, 2, 29, 30, 31, MIN, MAX}) {
            busy().by("waste(" + none + ")", v -> v.waste(none), -1);
        }
        Village v = village(kind(7, 1, 1));
        v.log(60, 0);
        v.log(60, (1L << 60) - 1);
        v.log(6, 0);
        v.log(7, 0);
        v.log(8, 1);
        v.log(8, 2);
        v.log(1, 0);
        int[] wastes = {4, 60, 6, 0, 1, 8, 1, -1};
        for (int log = 0; log < wastes.length; log++) {
            c.due("waste(" + log + ")", v.waste(log), wastes[log]);
        }
        v.give();
        c.due("waste(0) of a log whose rings are given", v.waste(0), 4);
        Village w = new Village();
        Scenes.full(w);
        c.due("waste(29)", w.waste(29), 30);
        c.due("waste(30)", w.waste(30), -1);
    }
}
