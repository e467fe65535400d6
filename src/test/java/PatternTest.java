/** Promises 6 to 11: kind, family, own, lend, may and season. */
public final class PatternTest {
    private static final Check c = new Check("PatternTest");

    public static void main(String[] args) {
        kinds();
        families();
        owning();
        lending();
        lendingLater();
        hundredLendings();
        seasons();
        c.end();
    }

    private static void kinds() {
        Village v = new Village();
        int[][] wrong = {{0, 1, 1}, {10, 1, 1}, {-1, 1, 1}, {1, 0, 1}, {1, 13, 1}, {1, -1, 1},
            {1, 1, -1}, {1, 1, 101}, {Integer.MIN_VALUE, 1, 1}, {1, Integer.MAX_VALUE, 1}};
        for (int[] w : wrong) {
            c.due("kind wrong", v.kind(w[0], w[1], w[2]), -1);
        }
        c.due("count(0)", v.count(0), 0);
        c.due("kind(1, 1, 0)", v.kind(1, 1, 0), 0);
        c.due("kind(9, 12, 100)", v.kind(9, 12, 100), 1);
        for (int k = 2; k < 8; k++) {
            c.due("kind(2, 2, 2)", v.kind(2, 2, 2), k);
        }
        c.due("a ninth kind", v.kind(2, 2, 2), -1);
        c.due("count(0)", v.count(0), 8);
    }

    private static void families() {
        Village v = new Village();
        for (int hands : new int[] {0, 10, -1, Integer.MIN_VALUE, Integer.MAX_VALUE}) {
            c.due("family(" + hands + ")", v.family(hands, false), -1);
        }
        c.due("count(1)", v.count(1), 0);
        c.due("family(1, false)", v.family(1, false), 0);
        c.due("family(9, true)", v.family(9, true), 1);
        for (int f = 2; f < 8; f++) {
            c.due("family(3, true)", v.family(3, true), f);
        }
        c.due("a ninth family", v.family(3, true), -1);
        c.due("count(1)", v.count(1), 8);
    }

    private static Village village(int families, int kinds) {
        Village v = new Village();
        for (int f = 0; f < families; f++) {
            v.family(1, false);
        }
        for (int k = 0; k < kinds; k++) {
            v.kind(1, 1, 1);
        }
        return v;
    }

    private static void owning() {
        Village v = village(2, 3);
        c.due("own(1, 2)", v.own(1, 2), true);
        c.due("own(1, 2) again", v.own(1, 2), false);
        c.due("own(0, 2)", v.own(0, 2), true);
        c.due("own(2, 0)", v.own(2, 0), false);
        c.due("own(0, 3)", v.own(0, 3), false);
        c.due("own(-1, 0)", v.own(-1, 0), false);
        c.due("own(0, -1)", v.own(0, -1), false);
        for (int s = 0; s < 40; s++) {
            c.due("may(1, 2, " + s + ")", v.may(1, 2, s), 1);
            c.due("may(1, 1, " + s + ")", v.may(1, 1, s), 0);
        }
        v.season();
        c.due("own(0, 0) in season 1", v.own(0, 0), true);
        c.due("may(0, 0, 0): as now", v.may(0, 0, 0), 1);
        int[][] none = {{2, 0, 0}, {-1, 0, 0}, {0, 3, 0}, {0, -1, 0}, {0, 0, -1}, {0, 0, 40},
            {0, 0, Integer.MIN_VALUE}, {Integer.MAX_VALUE, 0, 0}, {0, Integer.MIN_VALUE, 0}};
        for (int[] n : none) {
            c.due("may of none such", v.may(n[0], n[1], n[2]), -1);
        }
    }

    private static void lending() {
        Village v = village(3, 2);
        v.own(0, 1);
        c.due("it does not own it", v.lend(0, 1, 0, 5), false);
        c.due("one and the same", v.lend(0, 0, 1, 5), false);
        c.due("no such from", v.lend(3, 1, 1, 5), false);
        c.due("no such from", v.lend(-1, 1, 1, 5), false);
        c.due("no such to", v.lend(0, 3, 1, 5), false);
        c.due("no such to", v.lend(0, -1, 1, 5), false);
        c.due("no such kind", v.lend(0, 1, 2, 5), false);
        c.due("no such kind", v.lend(0, 1, -1, 5), false);
        c.due("not above now", v.lend(0, 1, 1, 0), false);
        c.due("below now", v.lend(0, 1, 1, -1), false);
        c.due("above 40", v.lend(0, 1, 1, 41), false);
        c.due("far above 40", v.lend(0, 1, 1, Integer.MAX_VALUE), false);
        c.due("may(1, 1, 0)", v.may(1, 1, 0), 0);
        c.due("lend(0, 1, 1, 3)", v.lend(0, 1, 1, 3), true);
        for (int s = 0; s < 6; s++) {
            c.due("may(1, 1, " + s + ")", v.may(1, 1, s), s < 3 ? 1 : 0);
            c.due("may(2, 1, " + s + ")", v.may(2, 1, s), 0);
        }
        c.due("what is lent is not owned", v.lend(1, 2, 1, 2), false);
        c.due("what is lent may be owned", v.own(1, 1), true);
        c.due("to one that owns it", v.lend(0, 1, 1, 3), true);
        c.due("lend(0, 2, 1, 40)", v.lend(0, 2, 1, 40), true);
        c.due("may(2, 1, 39)", v.may(2, 1, 39), 1);
        c.due("a shorter one takes nothing", v.lend(0, 2, 1, 1), true);
        c.due("may(2, 1, 39)", v.may(2, 1, 39), 1);
    }

    private static void lendingLater() {
        Village v = village(2, 1);
        v.own(0, 0);
        v.season();
        v.season();
        c.due("until now", v.lend(0, 1, 0, 2), false);
        c.due("until 4", v.lend(0, 1, 0, 4), true);
        int[] may = {0, 0, 1, 1, 0};
        for (int s = 0; s < may.length; s++) {
            c.due("may(1, 0, " + s + ")", v.may(1, 0, s), may[s]);
        }
        v.season();
        v.season();
        v.season();
        c.due("until 7, with a gap", v.lend(0, 1, 0, 7), true);
        int[] later = {0, 0, 1, 1, 0, 1, 1, 0};
        for (int s = 0; s < later.length; s++) {
            c.due("may(1, 0, " + s + ")", v.may(1, 0, s), later[s]);
        }
    }

    private static void hundredLendings() {
        Village v = village(3, 1);
        v.own(0, 0);
        for (int i = 0; i < 100; i++) {
            c.due("lend " + i, v.lend(0, 1, 0, 2), true);
            c.due("a wrong one does not count", v.lend(0, 1, 0, 0), false);
        }
        c.due("lend 101", v.lend(0, 2, 0, 2), false);
        c.due("may(2, 0, 0)", v.may(2, 0, 0), 0);
    }

    private static void seasons() {
        Village v = village(2, 1);
        v.own(0, 0);
        for (int s = 1; s <= 39; s++) {
            c.due("season()", v.season(), s);
            c.due("count(10)", v.count(10), s);
        }
        c.due("season() behind 39", v.season(), -1);
        c.due("count(10)", v.count(10), 39);
        c.due("lend up to 40 in 39", v.lend(0, 1, 0, 40), true);
        c.due("lend up to 39 in 39", v.lend(0, 1, 0, 39), false);
        c.due("may(1, 0, 39)", v.may(1, 0, 39), 1);
        c.due("may(1, 0, 38)", v.may(1, 0, 38), 0);
    }
}
