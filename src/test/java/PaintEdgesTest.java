/** Promises 14, 15 and 25: the edges of lot, paint and rest. */
public final class PaintEdgesTest {
    private static final Check c = new Check("PaintEdgesTest");
    private static final int MIN = Integer.MIN_VALUE;
    private static final int MAX = Integer.MAX_VALUE;

    public static void main(String[] args) {
        colours();
        twentyLots();
        noSuchLot();
        figureNotThere();
        aAboveB();
        paintedOnce();
        inNoBox();
        restKinds();
        restColours();
        c.end();
    }

    private static Untouched busy() {
        return new Untouched(c, Scenes::busy);
    }

    private static void colours() {
        c.sentence("Terms III: a COLOUR (0 .. 4); Promise 14: NONE, and nothing happens: no such COLOUR");
        for (int colour = 0; colour <= 4; colour++) {
            Village v = Scenes.figures(1);
            c.due("lot(" + colour + ")", v.lot(colour), 0);
            v.paint(0, 0, 0);
            for (int other = 0; other <= 4; other++) {
                c.due("rest(0, " + other + ")", v.rest(0, other), other == colour ? 1 : 0);
            }
            c.due("rest(0, -1)", v.rest(0, -1), 0);
        }
        for (int colour : new int[] {-1, -2, 5, 6, MIN, MAX}) {
            busy().by("lot(" + colour + ")", v -> v.lot(colour), -1);
        }
    }

    private static void twentyLots() {
        c.sentence("Terms III: LOTS of paint, 20 at most; Promise 14: NONE, and nothing happens: 20 are there");
        Village v = Scenes.figures(20);
        for (int lot = 0; lot < 20; lot++) {
            c.due("count(7)", v.count(7), lot);
            c.due("a wrong one ahead", v.lot(5), -1);
            c.due("lot " + lot, v.lot(lot % 5), lot);
        }
        c.due("count(7)", v.count(7), 20);
        c.due("a 21st", v.lot(0), -1);
        c.due("count(7)", v.count(7), 20);
        for (int lot = 0; lot < 20; lot++) {
            c.due("paint by " + lot, v.paint(lot, lot, lot), 1);
            c.due("figure(" + lot + ", 4)", v.figure(lot, 4), lot);
        }
        c.due("paint by a 21st", v.paint(20, 0, 0), -1);
        for (int colour = 0; colour < 5; colour++) {
            c.due("rest(0, " + colour + ")", v.rest(0, colour), 4);
        }
        for (int colour = 0; colour < 5; colour++) {
            int of = colour;
            new Untouched(c, Scenes::full).by("a 21st lot", x -> x.lot(of), -1);
        }
    }

    private static void noSuchLot() {
        c.sentence("Promise 15: NONE: no such LOT");
        Village v = Scenes.figures(2);
        c.due("paint without a lot", v.paint(0, 0, 1), -1);
        c.due("figure(0, 4)", v.figure(0, 4), -1);
        for (int lot : new int[] {-1, 2, 3, 19, 20, MIN, MAX}) {
            busy().by("paint(" + lot + ", 0, 7)", x -> x.paint(lot, 0, 7), -1);
        }
        c.due("lot(1)", v.lot(1), 0);
        c.due("paint by the only lot", v.paint(0, 0, 1), 2);
        new Untouched(c, Scenes::full).by("paint by lot 20", x -> x.paint(20, 0, 399), -1);
    }

    private static void figureNotThere() {
        c.sentence("Promise 15: NONE: a FIGURE that is not there");
        Village none = Scenes.workshop(1);
        none.lot(0);
        c.due("paint without figures", none.paint(0, 0, 0), -1);
        int[][] ranges = {{-1, 0}, {-1, -1}, {0, 8}, {7, 8}, {8, 8}, {8, 9}, {0, 399}, {0, 400}, {MIN, 0}, {0, MAX}, {MIN, MAX},
            {MAX, MAX}, {MIN, MIN}, {-5, 3}};
        for (int[] r : ranges) {
            busy().by("paint(0, " + r[0] + ", " + r[1] + ") of 8", v -> v.paint(0, r[0], r[1]), -1);
        }
        Village v = Scenes.allFigures();
        v.lot(0);
        c.due("paint(0, 0, 400)", v.paint(0, 0, 400), -1);
        c.due("paint(0, 400, 400)", v.paint(0, 400, 400), -1);
        c.due("rest(0, -1)", v.rest(0, -1), 400);
        c.due("paint(0, 399, 399)", v.paint(0, 399, 399), 1);
        c.due("paint(0, 0, 0)", v.paint(0, 0, 0), 1);
        c.due("paint(0, 0, 399)", v.paint(0, 0, 399), 398);
        c.due("rest(0, 0)", v.rest(0, 0), 400);
    }

    private static void aAboveB() {
        c.sentence("Promise 15: NONE: a above b.");
        for (int[] r : new int[][] {{1, 0}, {7, 6}, {7, 0}, {5, 4}}) {
            busy().by("paint(0, " + r[0] + ", " + r[1] + ")", v -> v.paint(0, r[0], r[1]), -1);
        }
        Village v = Scenes.figures(3);
        v.lot(0);
        c.due("a above b", v.paint(0, 2, 1), -1);
        c.due("a is b", v.paint(0, 1, 1), 1);
        c.due("figure(1, 4)", v.figure(1, 4), 0);
        c.due("figure(0, 4)", v.figure(0, 4), -1);
        c.due("figure(2, 4)", v.figure(2, 4), -1);
        c.due("a below b", v.paint(0, 1, 2), 1);
    }

    private static void paintedOnce() {
        c.sentence("Terms III: A FIGURE is painted once, by a LOT; Promise 15: those that were not");
        Village v = Scenes.figures(5);
        v.lot(3);
        v.lot(3);
        v.lot(4);
        c.due("paint(0, 1, 3)", v.paint(0, 1, 3), 3);
        c.due("by another lot of the colour", v.paint(1, 1, 3), 0);
        c.due("by another colour", v.paint(2, 0, 3), 1);
        c.due("by the same", v.paint(0, 0, 3), 0);
        int[] lots = {2, 0, 0, 0, -1};
        for (int f = 0; f < lots.length; f++) {
            c.due("figure(" + f + ", 4)", v.figure(f, 4), lots[f]);
        }
        new Untouched(c, x -> {
            Scenes.busy(x);
            x.paint(1, 0, 7);
        }).by("paint of painted ones", x -> x.paint(0, 0, 7), 0);
    }

    private static void inNoBox() {
        c.sentence("Terms III: before it is in a box; Promise 15: and are in no box: how many.");
        Village v = Scenes.figures(4);
        v.lot(1);
        v.order(1);
        v.need(0, 2, 0, -1);
        v.box();
        c.due("paint of two in a box", v.paint(0, 0, 1), 0);
        c.due("figure(0, 4)", v.figure(0, 4), -1);
        c.due("paint of all", v.paint(0, 0, 3), 2);
        v.refuse(0);
        c.due("figure(0, 4)", v.figure(0, 4), -1);
        c.due("paint of those in no box again", v.paint(0, 0, 3), 2);
        c.due("rest(0, 1)", v.rest(0, 1), 4);
    }

    private static void restKinds() {
        c.sentence("Promise 25: FIGURES of a KIND that are in no box .. NONE for others. (KINDS)");
        c.due("rest(0, 0) without a kind", new Village().rest(0, 0), -1);
        c.due("rest(0, -1) without a kind", new Village().rest(0, -1), -1);
        for (int kind : new int[] {-1, 3, 7, 8, MIN, MAX}) {
            busy().by("rest(" + kind + ", -1)", v -> v.rest(kind, -1), -1);
            busy().by("rest(" + kind + ", 0)", v -> v.rest(kind, 0), -1);
        }
        Village v = new Village();
        Scenes.full(v);
        c.due("rest(0, -1)", v.rest(0, -1), 80);
        c.due("rest(0, 0), in a box", v.rest(0, 0), 0);
        c.due("rest(7, -1)", v.rest(7, -1), 0);
        c.due("rest(8, -1)", v.rest(8, -1), -1);
    }

    private static void restColours() {
        c.sentence("Promise 25: of a COLOUR (painted so), or NONE: not painted. NONE for others. (COLOURS)");
        for (int colour : new int[] {-2, 5, 6, MIN, MAX}) {
            busy().by("rest(0, " + colour + ")", v -> v.rest(0, colour), -1);
        }
        // Each of two kinds and of the colours, in a box or not.
        Village v = new Village();
        v.kind(1, 6, 1);
        v.kind(1, 6, 2);
        v.family(1, false);
        v.own(0, 0);
        v.log(1, 0);
        v.own(0, 1);
        v.log(1, 0);
        v.give();
        for (int colour = 0; colour < 5; colour++) {
            v.lot(colour);
            v.paint(colour, colour, colour);
        }
        v.paint(4, 6, 9);
        v.order(1);
        v.need(0, 1, 0, 2);
        v.need(0, 1, 1, -1);
        c.due("box()", v.box(), 1);
        int[][] due = {{1, 1, 1, 0, 1, 1}, {2, 0, 0, 0, 0, 3}};
        for (int kind = 0; kind < 2; kind++) {
            for (int colour = -1; colour < 5; colour++) {
                c.due("rest(" + kind + ", " + colour + ")", v.rest(kind, colour), due[kind][colour + 1]);
            }
        }
        v.refuse(0);
        c.due("rest(0, 2) again", v.rest(0, 2), 1);
        c.due("rest(1, 4) again", v.rest(1, 4), 4);
    }
}
