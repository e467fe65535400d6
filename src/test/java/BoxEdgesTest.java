/** Promises 18, 19, 22, 24 and 26: the edges of box, refuse, packed, found and money. */
public final class BoxEdgesTest {
    private static final Check c = new Check("BoxEdgesTest");
    private static final int MIN = Integer.MIN_VALUE;
    private static final int MAX = Integer.MAX_VALUE;

    public static void main(String[] args) {
        nothingToBox();
        withoutNeeds();
        eachWhole();
        ofAKind();
        paintedSo();
        ofAny();
        inNoBox();
        mostWorth();
        mostOrders();
        firstByWhoIsIn();
        allSets();
        coloursFirst();
        leastNumbers();
        fullBoxes();
        refuseNoneSuch();
        refuseInNoBox();
        refusedFigures();
        packedEdges();
        foundEdges();
        foundOrders();
        moneyEdges();
        c.end();
    }

    private static Untouched busy() {
        return new Untouched(c, Scenes::busy);
    }

    /** An order with one need for any figures of kind 0. */
    private static void order(Village v, int worth, int many) {
        v.need(v.order(worth), many, 0, -1);
    }

    private static void states(Village v, int... due) {
        for (int o = 0; o < due.length; o++) {
            c.due("told(" + o + ", 0)", v.told(o, 0), due[o]);
        }
    }

    private static void packed(Village v, int order, int... figures) {
        for (int i = 0; i < figures.length; i++) {
            c.due("packed(" + order + ", " + i + ")", v.packed(order, i), figures[i]);
        }
        c.due("packed(" + order + ", " + figures.length + ")", v.packed(order, figures.length), -1);
    }

    private static void nothingToBox() {
        c.sentence("Promise 18: BOXING: the WORTH that goes out. (nothing does)");
        c.due("box() in an empty village", new Village().box(), 0);
        c.due("box() without orders", Scenes.figures(3).box(), 0);
        Village v = Scenes.figures(1);
        order(v, 1000, 2);
        c.due("box() with too few", v.box(), 0);
        states(v, 0);
        c.due("count(6)", v.count(6), 0);
        c.due("told(0, 4)", v.told(0, 4), -1);
        busy().by("box() with orders that can't be filled", x -> x.box(), 0);
        new Untouched(c, Scenes::full).by("box() with orders that can't be filled", x -> x.box(), 0);
    }

    private static void withoutNeeds() {
        c.sentence("Terms III: a set of OPEN ORDERS is filled, each whole (one without NEEDS)");
        Village v = new Village();
        v.order(0);
        v.order(1000);
        c.due("box()", v.box(), 1000);
        states(v, 1, 1);
        packed(v, 0);
        c.due("box() again", v.box(), 0);
        c.due("count(6)", v.count(6), 0);
    }

    private static void eachWhole() {
        c.sentence("Terms III: a set of OPEN ORDERS is filled, each whole");
        for (int many : new int[] {1, 2, 19, 20}) {
            Village v = Scenes.figures(Math.max(many - 1, 1));
            order(v, 7, many == 1 ? 2 : many);
            c.due("box() with one too few", v.box(), 0);
            c.due("count(6)", v.count(6), 0);
            v.log(1, 0);
            v.give();
            c.due("box() with just enough", v.box(), 7);
            c.due("count(6)", v.count(6), Math.max(many, 2));
        }
        // Four needs of one kind, 80 figures in all; then of four kinds.
        Village v = Scenes.figures(60);
        v.log(19, 0);
        v.give();
        v.order(7);
        for (int n = 0; n < 4; n++) {
            v.need(0, 20, 0, -1);
        }
        c.due("box() with 79 of 80", v.box(), 0);
        v.log(1, 0);
        v.give();
        c.due("box() with 80", v.box(), 7);
        c.due("packed(0, 79)", v.packed(0, 79), 79);
        Village w = new Village();
        w.family(1, false);
        for (int k = 0; k < 4; k++) {
            w.kind(1, 1, 1 + k);
            w.own(0, k);
            w.log(2, 0);
        }
        w.give();
        w.order(7);
        for (int n = 0; n < 4; n++) {
            w.need(0, n == 3 ? 3 : 2, n, -1);
        }
        c.due("box() with one of the last kind too few", w.box(), 0);
        c.due("count(6)", w.count(6), 0);
        w.log(1, 0);
        w.give();
        c.due("box() with enough of each kind", w.box(), 7);
        c.due("count(6)", w.count(6), 9);
    }

    private static void ofAKind() {
        c.sentence("Terms III: so many FIGURES .. of a KIND, of a COLOUR (each kind and each colour is one of its own)");
        // A figure of each of 8 kinds and of 5 colours or not painted, but for those of one sort.
        for (int kind = 0; kind < 8; kind++) {
            for (int colour = 0; colour < 5; colour++) {
                Village v = ofEachSort();
                v.paint(colour == 4 ? 0 : colour + 1, 6 * kind + colour, 6 * kind + colour);
                paintEachSort(v);
                v.order(5);
                v.need(0, 1, kind, colour);
                c.due("box() without kind " + kind + ", colour " + colour, v.box(), 0);
                v.order(3);
                v.need(1, 6, kind, -1);
                c.due("box() of all of kind " + kind, v.box(), 3);
                packed(v, 1, 6 * kind, 6 * kind + 1, 6 * kind + 2, 6 * kind + 3, 6 * kind + 4, 6 * kind + 5);
                v.order(2);
                v.need(2, 1, kind, -1);
                c.due("box() with none left of kind " + kind, v.box(), 0);
            }
            Village v = ofEachSort();
            paintEachSort(v);
            for (int colour = 0; colour < 4; colour++) {
                v.need(v.order(1), 1, kind, colour);
            }
            c.due("box() of four colours of kind " + kind, v.box(), 4);
            for (int colour = 0; colour < 4; colour++) {
                packed(v, colour, 6 * kind + colour);
            }
        }
    }

    /** Figures 6 k to 6 k + 5 are of kind k. */
    private static Village ofEachSort() {
        Village v = new Village();
        v.family(1, false);
        for (int k = 0; k < 8; k++) {
            v.kind(1, 6, 1 + k);
            v.own(0, k);
            v.log(1, 0);
        }
        v.give();
        for (int colour = 0; colour < 5; colour++) {
            v.lot(colour);
        }
        return v;
    }

    /** Figure 6 k + c gets colour c, 6 k + 5 none. */
    private static void paintEachSort(Village v) {
        for (int k = 0; k < 8; k++) {
            for (int colour = 0; colour < 5; colour++) {
                v.paint(colour, 6 * k + colour, 6 * k + colour);
            }
        }
    }

    private static void paintedSo() {
        c.sentence("Terms III: of a COLOUR (painted so)");
        for (int colour = 0; colour < 5; colour++) {
            Village v = Scenes.figures(4);
            v.lot(colour);
            v.lot(colour);
            v.lot((colour + 1) % 5);
            v.order(5);
            v.need(0, 2, 0, colour);
            c.due("box() without paint", v.box(), 0);
            v.paint(2, 0, 1);
            c.due("box() with another colour", v.box(), 0);
            v.paint(0, 2, 2);
            c.due("box() with one so", v.box(), 0);
            v.paint(1, 3, 3);
            c.due("box() with two so, by two lots", v.box(), 5);
            packed(v, 0, 2, 3);
        }
    }

    private static void ofAny() {
        c.sentence("Terms III: or of any (painted or not)");
        Village v = Scenes.figures(6);
        for (int colour = 0; colour < 5; colour++) {
            v.lot(colour);
            v.paint(colour, colour, colour);
        }
        order(v, 5, 6);
        c.due("box()", v.box(), 5);
        packed(v, 0, 0, 1, 2, 3, 4, 5);
        // Enough of the kind, but not enough besides those of a colour.
        v = Scenes.figures(3);
        v.lot(0);
        v.paint(0, 0, 1);
        v.order(5);
        v.need(0, 2, 0, 0);
        v.need(0, 2, 0, -1);
        c.due("box() with one too few besides", v.box(), 0);
        v.log(1, 0);
        v.give();
        c.due("box() with enough besides", v.box(), 5);
        packed(v, 0, 0, 1, 2, 3);
    }

    private static void inNoBox() {
        c.sentence("Terms III: by FIGURES that are in no box");
        Village v = Scenes.figures(3);
        order(v, 5, 2);
        c.due("box()", v.box(), 5);
        order(v, 5, 2);
        c.due("box() with one left", v.box(), 0);
        packed(v, 0, 0, 1);
        v.log(1, 0);
        v.give();
        c.due("box() with two left", v.box(), 5);
        packed(v, 0, 0, 1);
        packed(v, 1, 2, 3);
    }

    private static void mostWorth() {
        c.sentence("Terms III: Of all sets that can be that with the most WORTH together");
        Village v = Scenes.figures(4);
        order(v, 10, 4);
        order(v, 5, 1);
        order(v, 4, 1);
        order(v, 2, 2);
        c.due("box()", v.box(), 11);
        states(v, 0, 1, 1, 1);
        v = Scenes.figures(4);
        order(v, 12, 4);
        order(v, 5, 1);
        order(v, 4, 1);
        order(v, 2, 2);
        c.due("box()", v.box(), 12);
        states(v, 1, 0, 0, 0);
        // The most that there can be.
        v = Scenes.figures(8);
        for (int o = 0; o < 8; o++) {
            order(v, 1000, 1);
        }
        c.due("box()", v.box(), 8000);
        states(v, 1, 1, 1, 1, 1, 1, 1, 1);
    }

    private static void mostOrders() {
        c.sentence("Terms III: of these the most ORDERS");
        Village v = Scenes.figures(2);
        order(v, 8, 2);
        order(v, 4, 1);
        order(v, 4, 1);
        c.due("box()", v.box(), 8);
        states(v, 0, 1, 1);
        v = Scenes.figures(3);
        order(v, 8, 2);
        order(v, 4, 1);
        order(v, 4, 1);
        order(v, 0, 1);
        c.due("box()", v.box(), 12);
        states(v, 1, 1, 0, 0);
        v = Scenes.figures(3);
        order(v, 0, 3);
        order(v, 0, 1);
        order(v, 0, 2);
        order(v, 0, 1);
        order(v, 0, 1);
        c.due("box() of no worth", v.box(), 0);
        states(v, 0, 1, 0, 1, 1);
        c.due("count(6)", v.count(6), 3);
    }

    private static void firstByWhoIsIn() {
        c.sentence("Terms III: of these the first by who is in (the least ORDER that is not in both)");
        Village v = Scenes.figures(1);
        for (int o = 0; o < 8; o++) {
            order(v, 3, 1);
        }
        for (int o = 0; o < 8; o++) {
            c.due("box()", v.box(), 3);
            c.due("told(" + o + ", 0)", v.told(o, 0), 1);
            c.due("packed(" + o + ", 0)", v.packed(o, 0), 0);
            v.refuse(o);
        }
        c.due("box() with none open", v.box(), 0);
        // {0, 3} ahead of {1, 2}: 0 decides, not 3.
        v = Scenes.figures(3);
        order(v, 2, 2);
        order(v, 3, 2);
        order(v, 3, 1);
        order(v, 4, 1);
        c.due("box() of {1, 3}", v.box(), 7);
        states(v, 0, 1, 0, 1);
        v = Scenes.figures(5);
        order(v, 2, 1);
        order(v, 3, 2);
        order(v, 3, 3);
        order(v, 4, 4);
        c.due("box() of {0, 3} or {1, 2}", v.box(), 6);
        states(v, 1, 0, 0, 1);
        // {0, 1, 7} ahead of {0, 2, 3}: 0 is in both, 1 decides.
        v = Scenes.figures(7);
        order(v, 1, 1);
        order(v, 2, 2);
        order(v, 3, 3);
        order(v, 3, 3);
        for (int o = 4; o < 7; o++) {
            order(v, 0, 20);
        }
        order(v, 4, 4);
        c.due("box() of {0, 1, 7} or {0, 2, 3}", v.box(), 7);
        states(v, 1, 1, 0, 0, 0, 0, 0, 1);
    }

    private static void allSets() {
        c.sentence("Terms III: BOXING now: a set of OPEN ORDERS (each of the 256 is looked at)");
        // Worths of powers of two and figures for one set alone: order o needs kind o.
        for (int set = 0; set < 256; set++) {
            Village v = new Village();
            v.family(1, false);
            for (int k = 0; k < 8; k++) {
                v.kind(1, 1, 1 + k);
                if ((set >> k & 1) != 0) {
                    v.own(0, k);
                    v.log(1, 0);
                }
                v.need(v.order(1 << k), 1, k, -1);
            }
            v.give();
            c.due("box() of the set " + set, v.box(), set);
            for (int o = 0; o < 8; o++) {
                c.due("told(" + o + ", 0)", v.told(o, 0), set >> o & 1);
            }
        }
    }

    private static void coloursFirst() {
        c.sentence("Terms III: FIGURES: first all NEEDS with a COLOUR, ORDER by ORDER, as told; then those of any");
        Village v = Scenes.figures(6);
        v.lot(0);
        v.lot(1);
        v.paint(0, 0, 1);
        v.paint(1, 2, 3);
        v.order(1);
        v.need(0, 1, 0, -1);
        v.need(0, 1, 0, 1);
        v.order(1);
        v.need(1, 1, 0, -1);
        v.need(1, 1, 0, 0);
        v.need(1, 1, 0, 1);
        v.order(1);
        v.need(2, 1, 0, 0);
        c.due("box()", v.box(), 3);
        packed(v, 0, 2, 4);
        packed(v, 1, 0, 3, 5);
        packed(v, 2, 1);
        c.due("rest(0, -1)", v.rest(0, -1), 0);
    }

    private static void leastNumbers() {
        c.sentence("Terms III: each takes the least numbers that there are.");
        Village v = Scenes.figures(8);
        v.lot(0);
        v.paint(0, 1, 1);
        v.paint(0, 5, 7);
        v.order(1);
        v.need(0, 2, 0, 0);
        v.need(0, 2, 0, -1);
        v.order(1);
        v.need(1, 2, 0, -1);
        v.order(1);
        v.need(2, 1, 0, 0);
        c.due("box()", v.box(), 3);
        packed(v, 0, 0, 1, 2, 5);
        packed(v, 1, 3, 4);
        packed(v, 2, 6);
        // What is in no box again has the least numbers again.
        v.refuse(0);
        order(v, 1, 5);
        c.due("box()", v.box(), 1);
        packed(v, 3, 0, 1, 2, 5, 7);
    }

    private static void fullBoxes() {
        c.sentence("Terms I: FIGURES, 400 at most (all of them in boxes)");
        Village v = Scenes.allFigures();
        Check.read(v, "pay 1;");
        for (int o = 0; o < 6; o++) {
            v.order(10);
            for (int n = 0; n < 4; n++) {
                v.need(o, 20, 0, -1);
            }
        }
        c.due("box() of 400", v.box(), 50);
        states(v, 1, 1, 1, 1, 1, 0);
        c.due("count(6)", v.count(6), 400);
        c.due("money(0)", v.money(0), 400);
        c.due("packed(4, 79)", v.packed(4, 79), 399);
        c.due("packed(4, 80)", v.packed(4, 80), -1);
        c.due("rest(0, -1)", v.rest(0, -1), 0);
        c.due("refuse(0)", v.refuse(0), 80);
        c.due("count(6)", v.count(6), 320);
        c.due("box() of the last", v.box(), 10);
        packedFrom(v, 5, 0, 80);
    }

    private static void packedFrom(Village v, int order, int first, int many) {
        for (int i = 0; i < many; i++) {
            c.due("packed(" + order + ", " + i + ")", v.packed(order, i), first + i);
        }
    }

    private static void refuseNoneSuch() {
        c.sentence("Promise 19: NONE, and nothing happens: there is none such");
        c.due("refuse(0) without one", new Village().refuse(0), -1);
        for (int order : new int[] {-1, 4, 7, 8, MIN, MAX}) {
            busy().by("refuse(" + order + ")", v -> v.refuse(order), -1);
        }
        new Untouched(c, Scenes::full).by("refuse(8)", v -> v.refuse(8), -1);
    }

    private static void refuseInNoBox() {
        c.sentence("Promise 19: NONE, and nothing happens: it is in no box.");
        busy().by("refuse of one that is OPEN", v -> v.refuse(2), -1);
        busy().by("refuse of one that is REFUSED", v -> v.refuse(1), -1);
        Village v = new Village();
        v.order(1);
        c.due("refuse(0), OPEN and without NEEDS", v.refuse(0), -1);
        c.due("told(0, 0)", v.told(0, 0), 0);
        v.box();
        c.due("refuse(0), boxed without FIGURES", v.refuse(0), 0);
        c.due("told(0, 0)", v.told(0, 0), 2);
        c.due("refuse(0) again", v.refuse(0), -1);
    }

    private static void refusedFigures() {
        c.sentence("Terms III: its FIGURES are in no box again, and each one's FAMILY loses what it got for it.");
        Village v = new Village();
        v.kind(1, 1, 1);
        v.family(1, false);
        v.family(2, false);
        v.own(0, 0);
        v.own(1, 0);
        Check.read(v, "give 0 - load; pay hands * 10 + money;");
        v.log(6, 0);
        v.give();
        order(v, 1, 3);
        order(v, 1, 3);
        v.box();
        // By turns: family 0 gets 10, 20, 40 and family 1 gets 20, 40, 80.
        c.due("money(0)", v.money(0), 70);
        c.due("money(1)", v.money(1), 140);
        Check.read(v, "pay 1;");
        c.due("refuse(1)", v.refuse(1), 3);
        c.due("money(0) without 40", v.money(0), 30);
        c.due("money(1) without 40 and 80", v.money(1), 20);
        c.due("refuse(0)", v.refuse(0), 3);
        c.due("money(0)", v.money(0), 0);
        c.due("money(1)", v.money(1), 0);
        for (int f = 0; f < 6; f++) {
            c.due("figure(" + f + ", 5)", v.figure(f, 5), -1);
            c.due("figure(" + f + ", 6)", v.figure(f, 6), 0);
        }
        c.due("count(6)", v.count(6), 0);
    }

    private static void packedEdges() {
        c.sentence("Promise 22: The i-th FIGURE, by numbers, in an ORDER's box; NONE: not so many, none such.");
        c.due("packed(0, 0) without one", new Village().packed(0, 0), -1);
        for (int order : new int[] {-1, 4, 7, 8, MIN, MAX}) {
            busy().by("packed(" + order + ", 0)", v -> v.packed(order, 0), -1);
        }
        for (int i : new int[] {-1, 1, 2, 79, 80, 399, 400, MIN, MAX}) {
            busy().by("packed(0, " + i + ") of 1", v -> v.packed(0, i), -1);
        }
        for (int order = 1; order < 4; order++) {
            int of = order;
            busy().by("packed(" + of + ", 0) of one that is not boxed", v -> v.packed(of, 0), -1);
        }
        Village v = new Village();
        Scenes.busy(v);
        c.due("packed(0, 0)", v.packed(0, 0), 0);
        Village w = Scenes.figures(3);
        c.due("packed(-1, 0) with figures in no box", w.packed(-1, 0), -1);
        order(w, 1, 1);
        c.due("packed(0, 0) of one that is open", w.packed(0, 0), -1);
        w.box();
        packed(w, 0, 0);
        w.refuse(0);
        packed(w, 0);
    }

    private static void foundEdges() {
        c.sentence("Promise 24: NONE: not so many, no such LOT.");
        c.due("found(0, 0) without a lot", new Village().found(0, 0), -1);
        for (int lot : new int[] {-1, 2, 19, 20, MIN, MAX}) {
            busy().by("found(" + lot + ", 0)", v -> v.found(lot, 0), -1);
        }
        for (int i : new int[] {-1, 1, 2, 7, 8, MIN, MAX}) {
            busy().by("found(0, " + i + ") of 1", v -> v.found(0, i), -1);
        }
        busy().by("found(1, 0) of a lot in no box", v -> v.found(1, 0), -1);
        Village v = Scenes.figures(2);
        order(v, 1, 1);
        v.box();
        c.due("found(-1, 0) with a figure in a box that is not painted", v.found(-1, 0), -1);
        v.lot(0);
        c.due("found(0, 0) of a lot that painted nothing", v.found(0, 0), -1);
    }

    private static void foundOrders() {
        c.sentence("Promise 24: The i-th ORDER, by numbers, in whose box a FIGURE of a LOT is");
        // Eight orders of two figures each, two lots: lot 1 in all, lot 0 in the odd ones.
        Village v = Scenes.figures(16);
        v.lot(2);
        v.lot(2);
        for (int o = 0; o < 8; o++) {
            order(v, 1, 2);
            v.paint(1, 2 * o, 2 * o);
            v.paint(o % 2 == 1 ? 0 : 1, 2 * o + 1, 2 * o + 1);
        }
        c.due("found(1, 0) ahead of any box", v.found(1, 0), -1);
        c.due("box()", v.box(), 8);
        for (int i = 0; i < 8; i++) {
            c.due("found(1, " + i + ")", v.found(1, i), i);
            c.due("found(0, " + i + ")", v.found(0, i), i < 4 ? 2 * i + 1 : -1);
        }
        c.due("found(1, 8)", v.found(1, 8), -1);
        v.refuse(0);
        v.refuse(3);
        int[] ones = {1, 2, 4, 5, 6, 7, -1};
        int[] zeros = {1, 5, 7, -1};
        for (int i = 0; i < ones.length; i++) {
            c.due("found(1, " + i + ")", v.found(1, i), ones[i]);
        }
        for (int i = 0; i < zeros.length; i++) {
            c.due("found(0, " + i + ")", v.found(0, i), zeros[i]);
        }
        // The last lot and the last order.
        Village w = Scenes.figures(1);
        for (int i = 0; i < 20; i++) {
            w.lot(0);
        }
        w.paint(19, 0, 0);
        for (int o = 0; o < 8; o++) {
            order(w, o, 1);
        }
        c.due("box()", w.box(), 7);
        c.due("found(19, 0)", w.found(19, 0), 7);
        c.due("found(19, 1)", w.found(19, 1), -1);
        c.due("found(18, 0)", w.found(18, 0), -1);
        c.due("found(20, 0)", w.found(20, 0), -1);
    }

    private static void moneyEdges() {
        c.sentence("Promise 26: MONEY of a FAMILY; 0 if there is none such.");
        c.due("money(0) without one", new Village().money(0), 0);
        for (int family : new int[] {-1, 3, 7, 8, MIN, MAX}) {
            busy().by("money(" + family + ")", v -> v.money(family), 0);
        }
        Village v = new Village();
        v.kind(1, 1, 1);
        for (int f = 0; f < 8; f++) {
            v.family(1 + f, false);
            v.own(f, 0);
        }
        Check.read(v, "give 0 - load; pay hands * hands;");
        v.log(8, 0);
        v.give();
        order(v, 1, 8);
        v.box();
        for (int f = 0; f < 8; f++) {
            c.due("money(" + f + ")", v.money(f), (1 + f) * (1 + f));
        }
        c.due("money(8)", v.money(8), 0);
        c.due("money(-1)", v.money(-1), 0);
    }
}
