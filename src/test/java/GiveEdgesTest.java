/** Promises 13, 21 and 27: the edges of give, figure and load. */
public final class GiveEdgesTest {
    private static final Check c = new Check("GiveEdgesTest");
    private static final int MIN = Integer.MIN_VALUE;
    private static final int MAX = Integer.MAX_VALUE;

    public static void main(String[] args) {
        nothingWaits();
        byNumbers();
        mayCarveNow();
        noneSuch();
        roomForFigures();
        noRoomNow();
        slicesAreFigures();
        figureEdges();
        figureLotOrderPay();
        seasonOfTheCarving();
        loadEdges();
        loadOfEachSeason();
        c.end();
    }

    private static Untouched busy() {
        return new Untouched(c, Scenes::busy);
    }

    private static void nothingWaits() {
        c.sentence("Promise 13: GIVING: how many RINGS are given. (none waits)");
        c.due("give() in an empty village", new Village().give(), 0);
        c.due("give() without rings", Scenes.workshop(1).give(), 0);
        Village v = Scenes.workshop(1);
        v.log(60, 0);
        c.due("give()", v.give(), 60);
        c.due("give() again", v.give(), 0);
        c.due("count(5)", v.count(5), 60);
        v.log(1, 1);
        c.due("give() of a log without rings", v.give(), 0);
        new Untouched(c, x -> {
            Scenes.busy(x);
            x.give();
        }).by("give() with none that waits", x -> x.give(), 0);
        new Untouched(c, Scenes::full).by("give() with none that waits", x -> x.give(), 0);
    }

    private static void byNumbers() {
        c.sentence("Terms II: GIVING: the RINGS that wait, by numbers");
        // Rings of the kinds 1, 0 and 1, 0: the second is given ahead of the others.
        Village v = new Village();
        v.kind(1, 1, 1);
        v.kind(2, 2, 9);
        v.family(1, false);
        v.own(0, 0);
        v.own(0, 1);
        v.log(3, 0b100);
        v.log(3, 0);
        Check.read(v, "bar kind == 1;");
        c.due("give() of kind 0", v.give(), 1);
        c.due("count(4)", v.count(4), 2);
        v.log(1, 0);
        v.read();
        c.due("give() of the others", v.give(), 3);
        int[] firsts = {1, 0, 3, 5};
        for (int r = 0; r < firsts.length; r++) {
            c.due("ring(" + r + ", 4)", v.ring(r, 4), firsts[r]);
        }
    }

    private static void mayCarveNow() {
        c.sentence("Terms II: each to the FAMILY that MAY CARVE its KIND now");
        Village v = new Village();
        v.kind(1, 1, 1);
        v.kind(1, 1, 2);
        v.family(1, false);
        v.family(2, false);
        v.family(3, false);
        Check.read(v, "give hands;");
        v.own(0, 0);
        v.log(1, 0);
        v.lend(0, 1, 0, 2);
        v.own(2, 1);
        c.due("give() in 0", v.give(), 1);
        c.due("ring(0, 3): lent since it was cut", v.ring(0, 3), 1);
        v.log(1, 0);
        c.due("ring(1, 2)", v.ring(1, 2), 1);
        c.due("give() in 0", v.give(), 1);
        c.due("ring(1, 3): the one that owns this kind", v.ring(1, 3), 2);
        // A ring that was cut when it was lent, and is given when it is no more.
        Village w = new Village();
        w.kind(1, 1, 1);
        w.family(1, false);
        w.family(2, false);
        w.own(0, 0);
        w.lend(0, 1, 0, 1);
        Check.read(w, "give hands;");
        w.log(1, 0);
        w.season();
        c.due("give() in 1", w.give(), 1);
        c.due("ring(0, 3): lent no more", w.ring(0, 3), 0);
    }

    private static void noneSuch() {
        c.sentence("Terms II: none such .. : it waits on.");
        Village v = Scenes.workshop(3);
        v.log(2, 0);
        Check.read(v, "bar 1 == 1;");
        c.due("give() with all barred", v.give(), 0);
        c.due("count(4)", v.count(4), 2);
        c.due("count(5)", v.count(5), 0);
        c.due("ring(0, 3)", v.ring(0, 3), -1);
        c.due("ring(0, 4)", v.ring(0, 4), -1);
        c.due("load(0, 0)", v.load(0, 0), 0);
        new Untouched(c, x -> {
            Scenes.busy(x);
            x.back(14);
            Check.read(x, "bar 0 == 0; pay 3;");
        }).by("give() with all barred", x -> x.give(), 0);
        v.read();
        v.season();
        c.due("give() at last", v.give(), 2);
        c.due("figure(0, 7)", v.figure(0, 7), 1);
        c.due("load(0, 1)", v.load(0, 1), 6);
    }

    private static void roomForFigures() {
        c.sentence("Terms I: FIGURES, 400 at most; Terms II: or no room for its FIGURES: it waits on.");
        for (int room = 0; room <= 12; room++) {
            for (int slices = 1; slices <= 12; slices++) {
                Village v = withRoomFor(room, slices);
                c.due("count(5)", v.count(5), 400 - room);
                boolean fits = slices <= room;
                c.due("give() of " + slices + " with room for " + room, v.give(), fits ? 1 : 0);
                c.due("count(5)", v.count(5), 400 - room + (fits ? slices : 0));
                c.due("count(4)", v.count(4), fits ? 0 : 1);
                c.due("load(0, 0)", v.load(0, 0), v.count(5));
                c.due("ring(0, 4)", v.ring(0, 4), fits ? 400 - room : -1);
            }
        }
        Village v = Scenes.workshop(12);
        v.log(34, 0);
        c.due("give() with room for 33 of 12", v.give(), 33);
        c.due("count(5)", v.count(5), 396);
        c.due("count(4)", v.count(4), 1);
        c.due("load(0, 0)", v.load(0, 0), 396);
        c.due("ring(33, 3)", v.ring(33, 3), -1);
        c.due("figure(396, 0)", v.figure(396, 0), -1);
        c.due("give() again", v.give(), 0);
        Village w = Scenes.allFigures();
        c.due("count(5) of 40 rings of 10", w.count(5), 400);
        w.log(2, 0);
        c.due("give() with 400", w.give(), 0);
        c.due("count(4)", w.count(4), 2);
        c.due("figure(399, 0)", w.figure(399, 0), 39);
        c.due("figure(400, 0)", w.figure(400, 0), -1);
        c.due("load(0, 0)", w.load(0, 0), 400);
    }

    /** A village where ring 0, of so many slices, waits, and all others are given. */
    private static Village withRoomFor(int room, int slices) {
        Village v = new Village();
        int rest = (400 - room) % 12;
        v.kind(1, slices, 1);
        v.kind(1, Math.max(rest, 1), 13);
        v.kind(1, 12, 100);
        v.family(1, false);
        v.own(0, 0);
        v.log(1, 0);
        if (rest > 0) {
            v.own(0, 1);
            v.log(1, 0);
        }
        v.own(0, 2);
        v.log((400 - room) / 12, 0);
        Check.read(v, "bar kind == 0;");
        v.give();
        v.read();
        return v;
    }

    private static void noRoomNow() {
        c.sentence("Terms II: no room for its FIGURES: it waits on. (those behind it that have room do not)");
        // Rings of 5, 3, 4 and 1 slices, then 33 of 12, which come first by a text.
        Village v = new Village();
        v.family(1, false);
        v.kind(1, 5, 1);
        v.kind(1, 3, 2);
        v.kind(1, 4, 2);
        v.kind(1, 1, 9);
        v.kind(1, 12, 1);
        for (int k = 0; k < 4; k++) {
            v.own(0, k);
            v.log(1, 0);
        }
        v.own(0, 4);
        v.log(33, 0);
        Check.read(v, "bar kind != 4;");
        c.due("give() of 33 rings of 12", v.give(), 33);
        c.due("count(5)", v.count(5), 396);
        v.read();
        v.season();
        c.due("give() of 3 and 1, not of 5 and 4", v.give(), 2);
        int[] firsts = {-1, 396, -1, 399};
        int[] takers = {-1, 0, -1, 0};
        for (int r = 0; r < 4; r++) {
            c.due("ring(" + r + ", 2)", v.ring(r, 2), r);
            c.due("ring(" + r + ", 3)", v.ring(r, 3), takers[r]);
            c.due("ring(" + r + ", 4)", v.ring(r, 4), firsts[r]);
        }
        c.due("count(5)", v.count(5), 400);
        c.due("count(4)", v.count(4), 2);
        c.due("load(0, 0)", v.load(0, 0), 396);
        c.due("load(0, 1)", v.load(0, 1), 4);
        c.due("give() with no room", v.give(), 0);
    }

    private static void slicesAreFigures() {
        c.sentence("Terms II: Its SLICES are FIGURES then, one by one.");
        for (int slices : new int[] {1, 2, 12}) {
            Village v = Scenes.workshop(slices);
            v.log(3, 0);
            v.give();
            c.due("count(5)", v.count(5), 3 * slices);
            for (int r = 0; r < 3; r++) {
                c.due("ring(" + r + ", 4)", v.ring(r, 4), r * slices);
            }
            for (int f = 0; f < 3 * slices; f++) {
                c.due("figure(" + f + ", 0)", v.figure(f, 0), f / slices);
            }
            c.due("figure beyond", v.figure(3 * slices, 0), -1);
        }
    }

    private static void figureEdges() {
        c.sentence("Promise 21: Of a FIGURE: .. NONE for others.");
        c.due("figure(0, 0) without one", new Village().figure(0, 0), -1);
        c.due("figure(0, 6) without one", new Village().figure(0, 6), -1);
        Village w = new Village();
        Scenes.busy(w);
        int figures = w.count(5);
        c.due("figures of the scene", figures, 8);
        for (int none : new int[] {-1, figures, 399, 400, 401, MIN, MAX}) {
            for (int what = 0; what < 8; what++) {
                c.due("figure(" + none + ", " + what + ")", w.figure(none, what), -1);
            }
            busy().by("figure(" + none + ", 6)", v -> v.figure(none, 6), -1);
        }
        for (int what : new int[] {-1, 8, 9, MIN, MAX}) {
            for (int f = 0; f < figures; f++) {
                c.due("figure(" + f + ", " + what + ")", w.figure(f, what), -1);
            }
            busy().by("figure(0, " + what + ")", v -> v.figure(0, what), -1);
        }
        Village all = Scenes.allFigures();
        int[] last = {39, 0, 0, 0, -1, -1, 0, 0};
        for (int what = 0; what < last.length; what++) {
            c.due("figure(399, " + what + ")", all.figure(399, what), last[what]);
            c.due("figure(400, " + what + ")", all.figure(400, what), -1);
        }
    }

    private static void figureLotOrderPay() {
        c.sentence("Promise 21: 4: LOT (NONE), 5: ORDER in whose box it is (NONE), 6: what its FAMILY got for it (0 if it is in no box)");
        Village v = Scenes.figures(3);
        v.lot(0);
        Check.read(v, "pay 0-1;");
        lotOrderPay(v, 0, -1, -1, 0);
        v.paint(0, 0, 0);
        lotOrderPay(v, 0, 0, -1, 0);
        v.order(1);
        v.need(0, 2, 0, -1);
        v.box();
        lotOrderPay(v, 0, 0, 0, -1);
        lotOrderPay(v, 1, -1, 0, -1);
        lotOrderPay(v, 2, -1, -1, 0);
        v.refuse(0);
        lotOrderPay(v, 0, 0, -1, 0);
        lotOrderPay(v, 1, -1, -1, 0);
        // Again in a box, it is what the family got this time.
        Check.read(v, "pay 50;");
        v.order(1);
        v.need(1, 3, 0, -1);
        v.box();
        lotOrderPay(v, 0, 0, 1, 50);
        lotOrderPay(v, 2, -1, 1, 50);
        c.due("money(0)", v.money(0), 150);
        // The last lot and the last order.
        Village w = Scenes.figures(1);
        for (int i = 0; i < 20; i++) {
            w.lot(4);
        }
        w.paint(19, 0, 0);
        for (int i = 0; i < 8; i++) {
            w.order(0);
        }
        w.need(7, 1, 0, 4);
        w.box();
        lotOrderPay(w, 0, 19, 7, 0);
    }

    private static void lotOrderPay(Village v, int figure, int lot, int order, int pay) {
        c.due("figure(" + figure + ", 4)", v.figure(figure, 4), lot);
        c.due("figure(" + figure + ", 5)", v.figure(figure, 5), order);
        c.due("figure(" + figure + ", 6)", v.figure(figure, 6), pay);
    }

    private static void seasonOfTheCarving() {
        c.sentence("Promise 21: 7: the SEASON in which it was carved.");
        Village v = Scenes.workshop(1);
        v.log(1, 0);
        v.season();
        v.give();
        c.due("figure(0, 7): given in 1, cut in 0", v.figure(0, 7), 1);
        for (int s = 2; s <= 39; s++) {
            v.season();
        }
        v.log(1, 0);
        v.give();
        c.due("figure(1, 7)", v.figure(1, 7), 39);
        c.due("figure(0, 7)", v.figure(0, 7), 1);
    }

    private static void loadEdges() {
        c.sentence("Promise 27: Figures that a FAMILY carved in a SEASON; NONE: no such ones.");
        c.due("load(0, 0) without one", new Village().load(0, 0), -1);
        for (int none : new int[] {-1, 3, 8, MIN, MAX}) {
            busy().by("load(" + none + ", 0)", v -> v.load(none, 0), -1);
        }
        for (int season : new int[] {-1, 40, 41, 80, MIN, MAX}) {
            for (int family = 0; family < 3; family++) {
                int of = family;
                busy().by("load(" + of + ", " + season + ")", v -> v.load(of, season), -1);
            }
        }
    }

    private static void loadOfEachSeason() {
        c.sentence("Promise 27: Figures that a FAMILY carved in a SEASON");
        // Eight families; family f carves in the seasons 0 and 39 alone.
        Village v = new Village();
        v.kind(1, 2, 1);
        for (int f = 0; f < 8; f++) {
            v.family(1 + f, false);
            v.own(f, 0);
        }
        Check.read(v, "bar 2 <= load;");
        v.log(8, 0);
        c.due("give() in 0", v.give(), 8);
        for (int s = 1; s <= 39; s++) {
            v.season();
        }
        v.log(3, 0);
        c.due("give() in 39", v.give(), 3);
        for (int f = 0; f < 8; f++) {
            for (int s = 0; s < 40; s++) {
                int want = s == 0 || s == 39 && f < 3 ? 2 : 0;
                c.due("load(" + f + ", " + s + ")", v.load(f, s), want);
            }
        }
        c.due("load(7, 40)", v.load(7, 40), -1);
        c.due("load(8, 39)", v.load(8, 39), -1);
    }
}
