/** Promises 13, 20, 21 and 27: give, ring, figure and load, and what give and bar rules say. */
public final class GiveTest {
    private static final Check c = new Check("GiveTest");

    public static void main(String[] args) {
        whoMayNow();
        greatestClaim();
        bars();
        firstRuleThatHolds();
        loadGrows();
        variables();
        arithmetic();
        conditions();
        roomForFigures();
        figuresOfRings();
        c.end();
    }

    /** Kinds of {width, slices, worth}, families of {hands, widow}; each family owns each kind. */
    private static Village village(int[][] kinds, int[][] families) {
        Village v = new Village();
        for (int[] k : kinds) {
            v.kind(k[0], k[1], k[2]);
        }
        for (int f = 0; f < families.length; f++) {
            v.family(families[f][0], families[f][1] == 1);
            for (int k = 0; k < kinds.length; k++) {
                v.own(f, k);
            }
        }
        return v;
    }

    /** Cuts one more ring and looks at who gets it under the text. */
    private static void taker(Village v, String text, int want) {
        c.due("read() of " + text, Check.read(v, text), 0);
        int ring = v.count(3);
        v.log(1, 0);
        c.due("give() under " + text, v.give(), want == -1 ? 0 : 1);
        c.due("ring(.., 3) under " + text, v.ring(ring, 3), want);
    }

    private static void whoMayNow() {
        Village v = new Village();
        v.kind(1, 2, 1);
        v.family(1, false);
        v.family(1, false);
        v.family(1, false);
        v.own(2, 0);
        v.log(1, 0);
        c.due("give()", v.give(), 1);
        c.due("ring(0, 3)", v.ring(0, 3), 2);
        v.lend(2, 1, 0, 1);
        v.log(1, 0);
        c.due("give()", v.give(), 1);
        c.due("ring(1, 3)", v.ring(1, 3), 1);
        v.log(1, 0);
        v.season();
        c.due("give()", v.give(), 1);
        c.due("ring(2, 3): lent no more", v.ring(2, 3), 2);
        c.due("give() of none", v.give(), 0);
        c.due("load(1, 0)", v.load(1, 0), 2);
        c.due("load(2, 0)", v.load(2, 0), 2);
        c.due("load(2, 1)", v.load(2, 1), 2);
        c.due("load(1, 1)", v.load(1, 1), 0);
        c.due("load(0, 39)", v.load(0, 39), 0);
        c.due("load(0, 40)", v.load(0, 40), -1);
        c.due("load(0, -1)", v.load(0, -1), -1);
        c.due("load(3, 0)", v.load(3, 0), -1);
        c.due("load(-1, 0)", v.load(-1, 0), -1);
        // A ring that waits because nobody may carve it any more.
        Village w = new Village();
        w.kind(1, 1, 1);
        w.family(1, false);
        w.family(1, false);
        w.own(0, 0);
        w.lend(0, 1, 0, 1);
        Check.read(w, "bar hands == 1;");
        w.log(3, 0);
        c.due("give() with all barred", w.give(), 0);
        c.due("count(4)", w.count(4), 3);
        w.read();
        c.due("give()", w.give(), 3);
        c.due("count(4)", w.count(4), 0);
    }

    private static void greatestClaim() {
        Village v = village(new int[][] {{1, 1, 1}}, new int[][] {{2, 0}, {5, 0}, {5, 1}, {1, 1}});
        taker(v, "", 0);
        taker(v, "pay hands;", 0);
        taker(v, "give hands;", 1);
        taker(v, "give hands + widow;", 2);
        taker(v, "give 0 - hands;", 3);
        taker(v, "give 0 - hands * 1000;", 3);
        taker(v, "give 7;", 0);
        taker(v, "give 0 - 5 if widow == 0; give 0 - 1;", 2);
        taker(v, "give 0 - 5 if hands != 2; give 0 - 6;", 1);
        taker(v, "give 0 - 1 if hands < 5;", 1);
    }

    private static void bars() {
        Village v = village(new int[][] {{1, 1, 1}}, new int[][] {{2, 0}, {5, 0}, {5, 1}, {1, 1}});
        taker(v, "give hands; bar hands == 5;", 0);
        taker(v, "bar hands == 5; give hands; bar widow == 0;", 3);
        taker(v, "bar widow == 0; bar hands == 1; give 1;", 2);
        taker(v, "bar widow == 0; bar widow == 1; give hands;", -1);
        Village w = village(new int[][] {{1, 1, 1}, {2, 1, 5}}, new int[][] {{2, 0}, {5, 0}});
        Check.read(w, "bar kind == 1 and hands == 2; bar kind == 0 and hands == 5;");
        w.log(2, 0);
        w.log(1, 0);
        c.due("give()", w.give(), 2);
        c.due("ring(0, 3)", w.ring(0, 3), 1);
        c.due("ring(1, 3)", w.ring(1, 3), 0);
        // A ring that waits does not hold up those behind it.
        Check.read(w, "bar kind == 1;");
        w.log(2, 0);
        w.log(1, 0);
        c.due("give()", w.give(), 1);
        c.due("ring(2, 3)", w.ring(2, 3), -1);
        c.due("ring(2, 4)", w.ring(2, 4), -1);
        c.due("ring(3, 3)", w.ring(3, 3), 0);
        c.due("ring(3, 4)", w.ring(3, 4), 2);
    }

    private static void firstRuleThatHolds() {
        Village v = village(new int[][] {{1, 1, 1}}, new int[][] {{2, 0}, {5, 0}, {3, 1}});
        taker(v, "give 1 if widow == 1; give 9;", 0);
        taker(v, "give 9 if hands == 3; give 99 if widow == 1; give 10 if hands == 5; give 1;", 1);
        taker(v, "give 1; give hands;", 0);
        taker(v, "give 1 if hands == 5; give hands if hands == 5;", 1);
        taker(v, "pay 100 if hands == 5; give hands if widow == 1;", 2);
        taker(v, "bar 1 == 2; give hands;", 1);
    }

    private static void loadGrows() {
        Village v = village(new int[][] {{1, 3, 1}}, new int[][] {{2, 0}, {5, 0}});
        Check.read(v, "give 0 - load;");
        v.log(5, 0);
        c.due("give()", v.give(), 5);
        int[] takers = {0, 1, 0, 1, 0};
        for (int r = 0; r < 5; r++) {
            c.due("ring(" + r + ", 3)", v.ring(r, 3), takers[r]);
            c.due("ring(" + r + ", 4)", v.ring(r, 4), 3 * r);
        }
        c.due("load(0, 0)", v.load(0, 0), 9);
        c.due("load(1, 0)", v.load(1, 0), 6);
        // In the next season all begin anew.
        v.season();
        taker(v, "give 0 - load;", 0);
        taker(v, "give 0 - load;", 1);
        Check.read(v, "bar 3 <= load;");
        v.log(2, 0);
        c.due("give() with all barred", v.give(), 0);
        v.season();
        c.due("give()", v.give(), 2);
    }

    private static void variables() {
        Village v = village(new int[][] {{9, 1, 1}, {1, 4, 77}}, new int[][] {{2, 0}, {5, 1}});
        v.season();
        v.season();
        v.season();
        v.log(1, 0);
        holds(v, "kind == 1");
        holds(v, "worth == 77");
        holds(v, "slices == 4");
        holds(v, "season == 3");
        holds(v, "hands == 2 and widow == 0 or hands == 5 and widow == 1");
        holds(v, "money == 0");
        holds(v, "load <= 0");
    }

    /** Whether a bar rule with the condition bars all families. */
    private static void holds(Village v, String condition) {
        bars(v, condition, true);
    }

    private static void fails(Village v, String condition) {
        bars(v, condition, false);
    }

    private static void bars(Village v, String condition, boolean want) {
        int rings = v.count(4);
        if (rings == 0) {
            v.season();
            v.log(1, 0);
            rings = 1;
        }
        c.due("read() of bar " + condition, Check.read(v, "bar " + condition + ";"), 0);
        c.due("give() under bar " + condition, v.give(), want ? 0 : rings);
    }

    private static void arithmetic() {
        Village v = village(new int[][] {{1, 1, 1}}, new int[][] {{2, 0}});
        holds(v, "1 + 2 * 3 == 7");
        holds(v, "(1 + 2) * 3 == 9");
        holds(v, "2 * 3 + 4 * 5 == 26");
        holds(v, "10 - 3 - 2 == 5");
        holds(v, "10 - (3 - 2) == 9");
        holds(v, "10 - 2 * 3 - 1 == 3");
        holds(v, "2 * (3 - 5) * 4 == 0 - 16");
        holds(v, "0 - 2 * (0 - 3) == 6");
        holds(v, "((1 + (2 * (3 + (4 - (5)))))) == 5");
        holds(v, "(((((( 2 )))))) * (((((( 3 )))))) == 6");
        holds(v, "0 - 1 < 0");
        holds(v, "9999 * 9999 == 9998 * 10 * 1000 + 1");
        holds(v, "0009 == 9");
        // 65536 * 32768 = 2^31 wraps to the least int, and what is one below it to the greatest.
        holds(v, "4096 * 4096 * 128 < 0");
        holds(v, "0 < 4096 * 4096 * 128 - 1");
        holds(v, "4096 * 4096 * 256 == 0");
        holds(v, "4096 * 4096 * 128 == 0 - 4096 * 4096 * 128");
        holds(v, "4096 * 4096 * 128 + 4096 * 4096 * 128 == 0");
    }

    private static void conditions() {
        Village v = village(new int[][] {{1, 1, 1}}, new int[][] {{2, 0}});
        holds(v, "1 == 1");
        holds(v, "1 != 2");
        holds(v, "1 < 2");
        holds(v, "1 <= 1");
        holds(v, "1 <= 2");
        holds(v, "1 == 2 or 1 == 1");
        holds(v, "1 == 1 or 1 == 2");
        holds(v, "1 == 1 and 1 == 1");
        holds(v, "1 == 1 or 1 == 1 and 1 == 2");
        holds(v, "1 == 2 and 1 == 1 or 1 == 1");
        holds(v, "1 == 2 or 1 == 2 or 1 == 1");
        holds(v, "1 == 1 or 1 == 2 or 1 == 2 and 1 == 1");
        fails(v, "1 == 2");
        fails(v, "1 != 1");
        fails(v, "1 < 1");
        fails(v, "2 < 1");
        fails(v, "2 <= 1");
        fails(v, "1 == 1 and 1 == 2");
        fails(v, "1 == 2 and 1 == 1");
        fails(v, "1 == 2 or 1 == 2");
        fails(v, "1 == 1 and 1 == 2 or 1 == 2 and 1 == 1");
        fails(v, "1 == 2 and 1 == 1 and 1 == 1");
    }

    private static void roomForFigures() {
        // 33 rings of 12 are 396 figures: there is room for one of 3, and then for one of 1.
        Village v = new Village();
        v.kind(1, 12, 1);
        v.kind(2, 3, 20);
        v.kind(3, 1, 100);
        v.family(1, false);
        v.own(0, 0);
        v.log(33, 0);
        c.due("give()", v.give(), 33);
        c.due("count(5)", v.count(5), 396);
        v.log(1, 0);
        c.due("no room for 12", v.give(), 0);
        v.own(0, 1);
        v.log(2, 0);
        v.log(2, 0);
        v.own(0, 2);
        v.log(3, 0);
        v.log(3, 0);
        c.due("room for 3 and for 1", v.give(), 2);
        c.due("count(5)", v.count(5), 400);
        c.due("ring(33, 3)", v.ring(33, 3), -1);
        c.due("ring(34, 4)", v.ring(34, 4), 396);
        c.due("ring(35, 4)", v.ring(35, 4), -1);
        c.due("ring(36, 4)", v.ring(36, 4), 399);
        c.due("ring(37, 4)", v.ring(37, 4), -1);
        c.due("count(4)", v.count(4), 3);
        c.due("give()", v.give(), 0);
        c.due("figure(399, 0)", v.figure(399, 0), 36);
        c.due("figure(400, 0)", v.figure(400, 0), -1);
        c.due("load(0, 0)", v.load(0, 0), 400);
    }

    private static void figuresOfRings() {
        Village v = village(new int[][] {{2, 2, 5}, {1, 3, 1}}, new int[][] {{2, 0}, {3, 0}});
        Check.read(v, "bar kind == 0 and hands == 2;");
        v.log(2, 1);
        v.season();
        v.log(3, 0);
        c.due("give()", v.give(), 3);
        c.due("count(5)", v.count(5), 8);
        // Ring 0: log 0, kind 1 to family 0; ring 1: log 1, kind 0 to 1; ring 2: log 1, kind 1 to 0.
        int[][] due = {{0, 0, 1, 0}, {0, 0, 1, 0}, {0, 0, 1, 0}, {1, 1, 0, 1}, {1, 1, 0, 1},
            {2, 1, 1, 0}, {2, 1, 1, 0}, {2, 1, 1, 0}};
        for (int f = 0; f < due.length; f++) {
            for (int what = 0; what < 4; what++) {
                c.due("figure(" + f + ", " + what + ")", v.figure(f, what), due[f][what]);
            }
            c.due("figure(" + f + ", 4)", v.figure(f, 4), -1);
            c.due("figure(" + f + ", 5)", v.figure(f, 5), -1);
            c.due("figure(" + f + ", 6)", v.figure(f, 6), 0);
            c.due("figure(" + f + ", 7)", v.figure(f, 7), 1);
            c.due("figure(" + f + ", 8)", v.figure(f, 8), -1);
            c.due("figure(" + f + ", -1)", v.figure(f, -1), -1);
        }
        c.due("figure(8, 0)", v.figure(8, 0), -1);
        c.due("figure(-1, 0)", v.figure(-1, 0), -1);
        c.due("figure(-1, 6)", v.figure(-1, 6), -1);
    }
}
