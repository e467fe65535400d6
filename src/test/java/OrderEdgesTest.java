/** Promises 16, 17 and 23: the edges of order, need and told. */
public final class OrderEdgesTest {
    private static final Check c = new Check("OrderEdgesTest");
    private static final int MIN = Integer.MIN_VALUE;
    private static final int MAX = Integer.MAX_VALUE;

    public static void main(String[] args) {
        worths();
        eightOrders();
        needNoSuchOrder();
        needNotOpen();
        fourNeeds();
        needMany();
        needKind();
        needColour();
        toldEdges();
        toldStates();
        toldNeeds();
        toldSeason();
        c.end();
    }

    private static Untouched busy() {
        return new Untouched(c, Scenes::busy);
    }

    private static void worths() {
        c.sentence("Terms III: a WORTH (0 .. 1000); Promise 16: NONE, and nothing happens: no such WORTH.");
        for (int worth : new int[] {0, 1, 999, 1000}) {
            Village v = new Village();
            c.due("order(" + worth + ")", v.order(worth), 0);
            c.due("told(0, 1)", v.told(0, 1), worth);
            c.due("box()", v.box(), worth);
        }
        for (int worth : new int[] {-1, -1000, 1001, 1002, MIN, MAX}) {
            busy().by("order(" + worth + ")", v -> v.order(worth), -1);
        }
    }

    private static void eightOrders() {
        c.sentence("Terms III: ORDERS, 8 at most, numbered from 0 on; Promise 16: NONE, and nothing happens: 8 are there");
        Village v = new Village();
        for (int order = 0; order < 8; order++) {
            c.due("count(8)", v.count(8), order);
            c.due("a wrong one ahead", v.order(-1), -1);
            c.due("order " + order, v.order(order), order);
        }
        c.due("count(8)", v.count(8), 8);
        c.due("a ninth", v.order(0), -1);
        c.due("count(8)", v.count(8), 8);
        c.due("told(7, 1)", v.told(7, 1), 7);
        c.due("told(8, 1)", v.told(8, 1), -1);
        c.due("box()", v.box(), 28);
        c.due("a ninth when all are boxed", v.order(0), -1);
        c.due("refuse(7)", v.refuse(7), 0);
        c.due("a ninth when one is refused", v.order(0), -1);
        new Untouched(c, Scenes::full).by("a ninth order", x -> x.order(1000), -1);
        new Untouched(c, Scenes::full).by("a ninth order of no worth", x -> x.order(0), -1);
    }

    private static void needNoSuchOrder() {
        c.sentence("Promise 17: NONE, and nothing happens: no such ORDER");
        Village v = new Village();
        v.kind(1, 1, 1);
        c.due("need without an order", v.need(0, 1, 0, -1), -1);
        for (int order : new int[] {-1, 4, 5, 7, 8, MIN, MAX}) {
            busy().by("need(" + order + ", 1, 0, -1)", x -> x.need(order, 1, 0, -1), -1);
        }
    }

    private static void needNotOpen() {
        c.sentence("Promise 17: NONE, and nothing happens: it is not OPEN");
        busy().by("need of one that is boxed", v -> v.need(0, 1, 0, -1), -1);
        busy().by("need of one that is refused", v -> v.need(1, 1, 0, -1), -1);
        Village v = new Village();
        v.kind(1, 1, 1);
        v.order(0);
        v.box();
        c.due("need of one that is boxed without needs", v.need(0, 1, 0, -1), -1);
        c.due("told(0, 3)", v.told(0, 3), 0);
        v.refuse(0);
        c.due("need of it when it is refused", v.need(0, 1, 0, -1), -1);
        c.due("told(0, 2)", v.told(0, 2), 0);
    }

    private static void fourNeeds() {
        c.sentence("Terms III: NEEDS, 4 at most; Promise 17: its number there. NONE, and nothing happens: 4 are there");
        Village v = new Village();
        v.kind(1, 1, 1);
        for (int order = 0; order < 8; order++) {
            v.order(0);
        }
        for (int need = 0; need < 4; need++) {
            for (int order = 0; order < 8; order++) {
                c.due("a wrong one ahead", v.need(order, 0, 0, -1), -1);
                c.due("need " + need + " of " + order, v.need(order, 1 + order, 0, -1), need);
                c.due("told(" + order + ", 3)", v.told(order, 3), need + 1);
            }
        }
        for (int order = 0; order < 8; order++) {
            c.due("a fifth of " + order, v.need(order, 1, 0, -1), -1);
            c.due("told(" + order + ", 3)", v.told(order, 3), 4);
            c.due("told(" + order + ", 2)", v.told(order, 2), 4 + 4 * order);
        }
        busy().by("a fifth need", x -> x.need(3, 1, 0, -1), -1);
        for (int order = 5; order < 8; order++) {
            int of = order;
            new Untouched(c, Scenes::full).by("a fifth need of " + of, x -> x.need(of, 20, 7, 4), -1);
        }
    }

    private static void needMany() {
        c.sentence("Terms III: so many FIGURES (1 .. 20); Promise 17: NONE, and nothing happens: not 1 .. 20");
        for (int many = 1; many <= 20; many++) {
            Village v = Scenes.figures(many);
            v.order(9);
            c.due("need(0, " + many + ", 0, -1)", v.need(0, many, 0, -1), 0);
            c.due("told(0, 2)", v.told(0, 2), many);
            c.due("box()", v.box(), 9);
            c.due("packed(0, " + (many - 1) + ")", v.packed(0, many - 1), many - 1);
            c.due("packed(0, " + many + ")", v.packed(0, many), -1);
        }
        for (int many : new int[] {0, -1, -20, 21, 22, MIN, MAX}) {
            busy().by("need(2, " + many + ", 0, -1)", v -> v.need(2, many, 0, -1), -1);
            busy().by("need(2, " + many + ", 0, 2)", v -> v.need(2, many, 0, 2), -1);
        }
    }

    private static void needKind() {
        c.sentence("Promise 17: NONE, and nothing happens: no such KIND");
        Village v = new Village();
        v.order(1);
        c.due("need without a kind", v.need(0, 1, 0, -1), -1);
        c.due("told(0, 3)", v.told(0, 3), 0);
        for (int kind : new int[] {-1, 3, 4, 7, 8, MIN, MAX}) {
            busy().by("need(2, 1, " + kind + ", -1)", x -> x.need(2, 1, kind, -1), -1);
        }
        for (int kind = 0; kind < 8; kind++) {
            v.kind(1, 1, 1);
        }
        c.due("need(0, 1, 7, -1)", v.need(0, 1, 7, -1), 0);
        c.due("need(0, 1, 8, -1)", v.need(0, 1, 8, -1), -1);
    }

    private static void needColour() {
        c.sentence("Promise 17: (COLOUR NONE: any) .. NONE, and nothing happens: no such .. COLOUR.");
        for (int colour = -1; colour <= 4; colour++) {
            Village v = Scenes.figures(6);
            for (int lot = 0; lot < 5; lot++) {
                v.lot(lot);
                v.paint(lot, lot, lot);
            }
            v.order(3);
            c.due("need(0, 1, 0, " + colour + ")", v.need(0, 1, 0, colour), 0);
            c.due("box()", v.box(), 3);
            c.due("packed(0, 0)", v.packed(0, 0), Math.max(colour, 0));
        }
        for (int colour : new int[] {-2, -3, 5, 6, MIN, MAX}) {
            busy().by("need(2, 1, 0, " + colour + ")", v -> v.need(2, 1, 0, colour), -1);
        }
    }

    private static void toldEdges() {
        c.sentence("Promise 23: Of an ORDER: .. NONE for others.");
        c.due("told(0, 0) without one", new Village().told(0, 0), -1);
        for (int order : new int[] {-1, 4, 7, 8, MIN, MAX}) {
            for (int what = 0; what < 5; what++) {
                int of = what;
                busy().by("told(" + order + ", " + what + ")", v -> v.told(order, of), -1);
            }
        }
        for (int what : new int[] {-1, 5, 6, MIN, MAX}) {
            for (int order = 0; order < 4; order++) {
                int of = order;
                busy().by("told(" + order + ", " + what + ")", v -> v.told(of, what), -1);
            }
        }
        Village v = new Village();
        Scenes.full(v);
        int[] last = {0, 700, 80, 4, -1};
        for (int what = 0; what < last.length; what++) {
            c.due("told(7, " + what + ")", v.told(7, what), last[what]);
            c.due("told(8, " + what + ")", v.told(8, what), -1);
        }
    }

    private static void toldStates() {
        c.sentence("Promise 23: what 0: 0 OPEN, 1 boxed, 2 REFUSED; Terms III: REFUSED ones are not OPEN again.");
        Village v = Scenes.figures(1);
        v.order(1);
        v.need(0, 1, 0, -1);
        v.order(2);
        v.need(1, 2, 0, -1);
        c.due("told(0, 0)", v.told(0, 0), 0);
        v.box();
        c.due("told(0, 0)", v.told(0, 0), 1);
        c.due("told(1, 0)", v.told(1, 0), 0);
        v.box();
        c.due("told(0, 0)", v.told(0, 0), 1);
        v.refuse(0);
        c.due("told(0, 0)", v.told(0, 0), 2);
        c.due("box()", v.box(), 0);
        c.due("told(0, 0)", v.told(0, 0), 2);
        c.due("count(6)", v.count(6), 0);
        c.due("told(1, 0)", v.told(1, 0), 0);
        v.log(1, 0);
        v.give();
        c.due("box() with two figures", v.box(), 2);
        c.due("told(1, 0)", v.told(1, 0), 1);
    }

    private static void toldNeeds() {
        c.sentence("Promise 23: 1: WORTH; 2: FIGURES that it NEEDS; 3: NEEDS");
        Village v = new Village();
        v.kind(1, 1, 1);
        v.kind(1, 1, 1);
        v.order(1000);
        int[] many = {20, 1, 20, 20};
        int all = 0;
        for (int n = 0; n < 4; n++) {
            c.due("told(0, 2)", v.told(0, 2), all);
            c.due("told(0, 3)", v.told(0, 3), n);
            v.need(0, many[n], n % 2, n - 1);
            all += many[n];
        }
        c.due("told(0, 2)", v.told(0, 2), 61);
        c.due("told(0, 3)", v.told(0, 3), 4);
        c.due("told(0, 1)", v.told(0, 1), 1000);
        v.order(0);
        c.due("told(1, 1)", v.told(1, 1), 0);
        c.due("told(1, 2)", v.told(1, 2), 0);
    }

    private static void toldSeason() {
        c.sentence("Promise 23: 4: the SEASON in which it was boxed (NONE).");
        Village v = Scenes.figures(2);
        v.order(1);
        v.need(0, 1, 0, -1);
        c.due("told(0, 4) ahead of it", v.told(0, 4), -1);
        v.box();
        c.due("told(0, 4)", v.told(0, 4), 0);
        v.order(1);
        v.need(1, 1, 0, -1);
        for (int s = 1; s <= 39; s++) {
            v.season();
        }
        c.due("told(1, 4) ahead of it", v.told(1, 4), -1);
        v.box();
        c.due("told(1, 4)", v.told(1, 4), 39);
        c.due("told(0, 4)", v.told(0, 4), 0);
        v.order(1);
        v.need(2, 1, 0, -1);
        v.box();
        c.due("told(2, 4) of one that can't be", v.told(2, 4), -1);
    }
}
