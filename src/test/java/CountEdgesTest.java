/** Promises 1 and 29: the edges of a new object and of count, and the last calls that are promised. */
public final class CountEdgesTest {
    private static final Check c = new Check("CountEdgesTest");
    private static final int MIN = Integer.MIN_VALUE;
    private static final int MAX = Integer.MAX_VALUE;

    public static void main(String[] args) {
        nothingIsThere();
        seasonZero();
        noRules();
        oneByOne();
        allFull();
        waitingAndBoxed();
        forOthers();
        lastCalls();
        twoVillages();
        c.end();
    }

    private static void nothingIsThere() {
        c.sentence("Promise 1: Nothing is there");
        for (int what : new int[] {0, 1, 2, 3, 4, 5, 6, 7, 8, 11}) {
            c.due("count(" + what + ")", new Village().count(what), 0);
        }
        for (int i = -1; i <= 8; i++) {
            for (int what = 0; what < 8; what++) {
                Village v = new Village();
                c.due("ring(" + i + ", " + what + ")", v.ring(i, what), -1);
                c.due("figure(" + i + ", " + what + ")", v.figure(i, what), -1);
                c.due("told(" + i + ", " + what + ")", v.told(i, what), -1);
                c.due("packed(" + i + ", " + what + ")", v.packed(i, what), -1);
                c.due("found(" + i + ", " + what + ")", v.found(i, what), -1);
                c.due("load(" + i + ", " + what + ")", v.load(i, what), -1);
                c.due("rest(" + i + ", " + (what - 1) + ")", v.rest(i, what - 1), -1);
                c.due("may(" + i + ", " + what + ", 0)", v.may(i, what, 0), -1);
                c.due("own(" + i + ", " + what + ")", v.own(i, what), false);
                c.due("waste(" + i + ")", v.waste(i), -1);
                c.due("money(" + i + ")", v.money(i), 0);
                c.due("refuse(" + i + ")", v.refuse(i), -1);
                c.due("paint(" + i + ", 0, 0)", v.paint(i, 0, 0), -1);
                c.due("need(" + i + ", 1, 0, -1)", v.need(i, 1, 0, -1), -1);
            }
        }
        // What comes first has the number 0.
        Village v = new Village();
        c.due("kind", v.kind(1, 1, 1), 0);
        c.due("family", v.family(1, false), 0);
        c.due("log", v.log(1, 0), 0);
        c.due("lot", v.lot(0), 0);
        c.due("order", v.order(0), 0);
        c.due("need", v.need(0, 1, 0, -1), 0);
        c.due("feed", v.feed(0, 0, 0, 0, 0), 20);
    }

    private static void seasonZero() {
        c.sentence("Promise 1: SEASON 0");
        Village v = new Village();
        c.due("count(10)", v.count(10), 0);
        c.due("season()", v.season(), 1);
        c.due("a figure's SEASON", Scenes.figures(1).figure(0, 7), 0);
    }

    private static void noRules() {
        c.sentence("Promise 1: no RULES.");
        c.due("count(9)", new Village().count(9), 0);
        c.due("place()", new Village().place(), -1);
        Village v = Scenes.figures(1);
        v.order(1);
        v.need(0, 1, 0, -1);
        v.box();
        c.due("nothing bars", v.ring(0, 3), 0);
        c.due("nothing is paid", v.money(0), 0);
    }

    private static void oneByOne() {
        c.sentence("Promise 29: 0 KINDS, 1 FAMILIES, 2 LOGS, 3 RINGS, 4 those that wait, 5 FIGURES, 6 those in boxes, 7 LOTS, 8 ORDERS, "
                + "9 RULES, 10 the SEASON, 11 bytes on the tape.");
        Village v = new Village();
        int[] due = new int[12];
        counts(v, due);
        v.kind(1, 3, 1);
        due[0] = 1;
        counts(v, due);
        v.family(1, false);
        due[1] = 1;
        counts(v, due);
        v.log(1, 0);
        due[2] = 1;
        counts(v, due);
        v.own(0, 0);
        v.log(2, 0);
        due[2] = 2;
        due[3] = 2;
        due[4] = 2;
        counts(v, due);
        v.give();
        due[4] = 0;
        due[5] = 6;
        counts(v, due);
        v.lot(0);
        due[7] = 1;
        counts(v, due);
        v.order(1);
        v.need(0, 2, 0, -1);
        due[8] = 1;
        counts(v, due);
        v.box();
        due[6] = 2;
        counts(v, due);
        v.refuse(0);
        due[6] = 0;
        counts(v, due);
        v.season();
        due[10] = 1;
        counts(v, due);
        Check.type(v, "pay 1;pay 2;");
        due[11] = 12;
        counts(v, due);
        v.read();
        due[9] = 2;
        due[11] = 0;
        counts(v, due);
    }

    private static void counts(Village v, int[] due) {
        for (int what = 0; what < due.length; what++) {
            c.due("count(" + what + ")", v.count(what), due[what]);
        }
    }

    private static void allFull() {
        c.sentence("Terms I to III: 8 KINDS, 8 FAMILIES, 30 LOGS, 200 RINGS, 400 FIGURES, 20 LOTS, 8 ORDERS, 20 RULES, SEASON 39, 2,000 bytes");
        Village v = new Village();
        Scenes.full(v);
        counts(v, new int[] {8, 8, 30, 200, 0, 400, 320, 20, 8, 20, 39, 2000});
        c.due("kind", v.kind(1, 1, 1), -1);
        c.due("family", v.family(1, false), -1);
        c.due("log", v.log(1, 1), -1);
        c.due("give", v.give(), 0);
        c.due("lot", v.lot(0), -1);
        c.due("order", v.order(0), -1);
        c.due("season", v.season(), -1);
        c.due("feed", v.feed(0, 0, 0, 0, 0), -1);
        counts(v, new int[] {8, 8, 30, 200, 0, 400, 320, 20, 8, 20, 39, 2000});
        c.due("read() of 100 RULES", v.read(), 2);
        c.due("place()", v.place(), 400);
        counts(v, new int[] {8, 8, 30, 200, 0, 400, 320, 20, 8, 20, 39, 0});
    }

    private static void waitingAndBoxed() {
        c.sentence("Promise 29: 3 RINGS, 4 those that wait, 5 FIGURES, 6 those in boxes");
        Village v = Scenes.workshop(2);
        v.log(60, 0);
        v.log(60, 0);
        v.log(60, 0);
        v.log(20, 0);
        c.due("count(4) of 200", v.count(4), 200);
        v.give();
        c.due("count(4)", v.count(4), 0);
        c.due("count(5)", v.count(5), 400);
        for (int o = 0; o < 5; o++) {
            v.order(1);
            for (int n = 0; n < 4; n++) {
                v.need(o, 20, 0, -1);
            }
        }
        v.box();
        c.due("count(6) of 400", v.count(6), 400);
        for (int o = 0; o < 5; o++) {
            v.refuse(o);
            c.due("count(6)", v.count(6), 320 - 80 * o);
        }
    }

    private static void forOthers() {
        c.sentence("Promise 29: NONE for others.");
        for (int what : new int[] {-1, -2, 12, 13, 100, MIN, MAX}) {
            c.due("count(" + what + ") of a new one", new Village().count(what), -1);
            new Untouched(c, Scenes::busy).by("count(" + what + ")", v -> v.count(what), -1);
        }
    }

    private static void lastCalls() {
        c.sentence("What it is: An object is used for at most 512 calls after it has been made");
        Village v = Scenes.figures(2);
        Check.read(v, "pay 5;");
        v.order(3);
        v.need(0, 2, 0, -1);
        while (v.left() > 3) {
            v.count(0);
        }
        c.due("box() as the 510th", v.box(), 3);
        c.due("money(0) as the 511th", v.money(0), 10);
        c.due("refuse(0) as the 512th", v.refuse(0), 2);
    }

    private static void twoVillages() {
        c.sentence("Promise 1: Nothing is there (of one object by what another one does)");
        new Untouched(c, Scenes::busy).by("a full village beside it", v -> {
            Scenes.full(new Village());
            return 0;
        }, 0);
        Village full = new Village();
        Scenes.full(full);
        for (int what = 0; what < 12; what++) {
            c.due("count(" + what + ") of a new one", new Village().count(what), 0);
        }
    }
}
