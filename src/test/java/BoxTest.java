/** Promises 18, 19, 22, 24 and 26: box, refuse, packed, found and money. */
public final class BoxTest {
    private static final Check c = new Check("BoxTest");

    public static void main(String[] args) {
        mostWorth();
        mostOrders();
        firstByWhoIsIn();
        wholeOrders();
        coloursFirst();
        leastNumbers();
        pay();
        payAtOnce();
        payWraps();
        refusing();
        finding();
        c.end();
    }

    /** Two kinds, two families: so many figures of kind 0 by family 0, then of kind 1 by family 1. */
    private static Village village(int ofKind0, int ofKind1) {
        Village v = new Village();
        v.kind(1, 1, 3);
        v.kind(1, 1, 4);
        v.family(2, false);
        v.family(5, true);
        v.own(0, 0);
        if (ofKind0 > 0) {
            v.log(ofKind0, 0);
        }
        v.own(1, 1);
        if (ofKind1 > 0) {
            v.log(ofKind1, 0);
        }
        v.give();
        return v;
    }

    /** Orders of {worth, many}, each for any figures of kind 0. */
    private static void orders(Village v, int[]... worthAndMany) {
        for (int[] o : worthAndMany) {
            int order = v.order(o[0]);
            v.need(order, o[1], 0, -1);
        }
    }

    private static void boxed(Village v, int... states) {
        for (int o = 0; o < states.length; o++) {
            c.due("told(" + o + ", 0)", v.told(o, 0), states[o]);
        }
    }

    private static void packed(Village v, int order, int... figures) {
        for (int i = 0; i < figures.length; i++) {
            c.due("packed(" + order + ", " + i + ")", v.packed(order, i), figures[i]);
            c.due("figure(" + figures[i] + ", 5)", v.figure(figures[i], 5), order);
        }
        c.due("packed(" + order + ") beyond", v.packed(order, figures.length), -1);
        c.due("packed(" + order + ", -1)", v.packed(order, -1), -1);
    }

    private static void mostWorth() {
        Village v = village(5, 0);
        orders(v, new int[] {9, 4}, new int[] {5, 3}, new int[] {5, 2}, new int[] {100, 6});
        c.due("box()", v.box(), 10);
        boxed(v, 0, 1, 1, 0);
        packed(v, 1, 0, 1, 2);
        packed(v, 2, 3, 4);
        packed(v, 0);
        c.due("packed(4, 0)", v.packed(4, 0), -1);
        c.due("packed(-1, 0)", v.packed(-1, 0), -1);
        c.due("count(6)", v.count(6), 5);
        c.due("box() with nothing left", v.box(), 0);
        boxed(v, 0, 1, 1, 0);
    }

    private static void mostOrders() {
        Village v = village(4, 0);
        orders(v, new int[] {10, 4}, new int[] {5, 1}, new int[] {5, 2}, new int[] {0, 1});
        c.due("box()", v.box(), 10);
        boxed(v, 0, 1, 1, 1);
        // One without needs goes out though it is worth nothing.
        v = village(1, 0);
        v.order(0);
        orders(v, new int[] {3, 2});
        c.due("box()", v.box(), 0);
        boxed(v, 1, 0);
        packed(v, 0);
        c.due("count(6)", v.count(6), 0);
        c.due("refuse(0)", v.refuse(0), 0);
    }

    private static void firstByWhoIsIn() {
        Village v = village(2, 0);
        orders(v, new int[] {3, 3}, new int[] {5, 1}, new int[] {5, 1}, new int[] {5, 1});
        c.due("box()", v.box(), 10);
        boxed(v, 0, 1, 1, 0);
        // {0, 3} and {1, 2} have the same worth and the same many: the one with 0.
        v = village(4, 0);
        orders(v, new int[] {4, 1}, new int[] {5, 2}, new int[] {5, 2}, new int[] {6, 3});
        c.due("box()", v.box(), 10);
        boxed(v, 1, 0, 0, 1);
        // {0, 3} and {0, 2} are equal, and {1, 2}: first by 0, then by 2.
        v = village(2, 0);
        orders(v, new int[] {5, 1}, new int[] {5, 2}, new int[] {5, 1}, new int[] {5, 1});
        c.due("box()", v.box(), 10);
        boxed(v, 1, 0, 1, 0);
    }

    private static void wholeOrders() {
        Village v = village(3, 3);
        v.lot(1);
        v.paint(0, 0, 1);
        int a = v.order(10);
        v.need(a, 2, 0, 1);
        v.need(a, 4, 1, -1);
        int b = v.order(1);
        v.need(b, 2, 0, -1);
        v.need(b, 1, 0, -1);
        v.need(b, 3, 1, -1);
        c.due("box()", v.box(), 1);
        boxed(v, 0, 1);
        packed(v, b, 0, 1, 2, 3, 4, 5);
        // Painted in another colour, or not at all, is not painted so.
        v = village(3, 0);
        v.lot(1);
        v.lot(2);
        v.paint(0, 0, 0);
        v.paint(1, 1, 1);
        a = v.order(10);
        v.need(a, 2, 0, 1);
        c.due("box()", v.box(), 0);
        v.paint(0, 2, 2);
        c.due("box()", v.box(), 10);
        packed(v, a, 0, 2);
        // Two needs of one colour take it together.
        v = village(3, 0);
        v.lot(1);
        v.paint(0, 0, 1);
        a = v.order(10);
        v.need(a, 1, 0, 1);
        v.need(a, 2, 0, 1);
        c.due("box()", v.box(), 0);
        v.paint(0, 2, 2);
        c.due("box()", v.box(), 10);
    }

    private static void coloursFirst() {
        Village v = village(3, 0);
        v.lot(4);
        v.paint(0, 0, 1);
        int a = v.order(1);
        v.need(a, 1, 0, -1);
        v.need(a, 1, 0, 4);
        int b = v.order(1);
        v.need(b, 1, 0, 4);
        c.due("box()", v.box(), 2);
        packed(v, a, 0, 2);
        packed(v, b, 1);
        // One of any may be left with none, though there are enough of the kind for it alone.
        v = village(2, 0);
        v.lot(4);
        v.paint(0, 0, 1);
        a = v.order(1);
        v.need(a, 1, 0, -1);
        b = v.order(2);
        v.need(b, 2, 0, 4);
        c.due("box()", v.box(), 2);
        boxed(v, 0, 1);
    }

    private static void leastNumbers() {
        Village v = village(6, 0);
        v.lot(0);
        v.lot(1);
        v.lot(0);
        v.paint(0, 5, 5);
        v.paint(1, 1, 1);
        v.paint(2, 3, 3);
        int a = v.order(1);
        v.need(a, 2, 0, -1);
        v.need(a, 1, 0, 0);
        int b = v.order(1);
        v.need(b, 1, 0, -1);
        v.need(b, 1, 0, 0);
        c.due("box()", v.box(), 2);
        packed(v, a, 0, 1, 3);
        packed(v, b, 2, 5);
        c.due("figure(4, 5)", v.figure(4, 5), -1);
    }

    private static void pay() {
        Village v = village(2, 2);
        Check.read(v, "give 50; pay 100 if widow == 1 and season == 2; bar 1 == 1; pay worth * hands if kind == 0; pay 7;");
        int a = v.order(1);
        v.need(a, 1, 0, -1);
        v.need(a, 1, 1, -1);
        c.due("money(0)", v.money(0), 0);
        c.due("box()", v.box(), 1);
        c.due("figure(0, 6)", v.figure(0, 6), 6);
        c.due("figure(2, 6)", v.figure(2, 6), 7);
        c.due("figure(1, 6)", v.figure(1, 6), 0);
        c.due("money(0)", v.money(0), 6);
        c.due("money(1)", v.money(1), 7);
        v.season();
        v.season();
        int b = v.order(1);
        v.need(b, 1, 0, -1);
        v.need(b, 1, 1, -1);
        c.due("box()", v.box(), 1);
        c.due("money(0)", v.money(0), 12);
        c.due("money(1)", v.money(1), 107);
        c.due("money(2)", v.money(2), 0);
        c.due("money(-1)", v.money(-1), 0);
        c.due("money(max)", v.money(Integer.MAX_VALUE), 0);
        // Without a rule that holds there is nothing; load is that of the season which is now.
        v = village(2, 2);
        Check.read(v, "pay 5 if load == 2 and season == 0; pay slices + 8 if load == 0 and season == 1;");
        orders(v, new int[] {1, 1});
        v.box();
        c.due("money(0)", v.money(0), 5);
        v.season();
        orders(v, new int[] {1, 1});
        v.box();
        c.due("money(0)", v.money(0), 14);
        v = village(1, 0);
        Check.read(v, "pay 5 if hands == 3; give 9;");
        orders(v, new int[] {1, 1});
        v.box();
        c.due("money(0)", v.money(0), 0);
    }

    private static void payAtOnce() {
        Village v = village(4, 0);
        v.lot(0);
        v.paint(0, 2, 3);
        Check.read(v, "pay money * 2 + 1;");
        // By the numbers of the figures, not by orders: 0 and 1 are in the second box.
        int a = v.order(1);
        v.need(a, 2, 0, 0);
        int b = v.order(1);
        v.need(b, 2, 0, -1);
        c.due("box()", v.box(), 2);
        packed(v, a, 2, 3);
        packed(v, b, 0, 1);
        int[] pay = {1, 3, 9, 27};
        for (int f = 0; f < pay.length; f++) {
            c.due("figure(" + f + ", 6)", v.figure(f, 6), pay[f]);
        }
        c.due("money(0)", v.money(0), 40);
    }

    private static void payWraps() {
        Village v = village(3, 0);
        Check.read(v, "pay 4096 * 4096 * 127;");
        orders(v, new int[] {1, 3});
        v.box();
        int one = 4096 * 4096 * 127;
        c.due("money(0)", v.money(0), one + one + one);
        v.refuse(0);
        c.due("money(0)", v.money(0), 0);
        Check.read(v, "pay 0 - 5;");
        orders(v, new int[] {1, 1});
        v.box();
        c.due("money(0)", v.money(0), -5);
        c.due("figure(0, 6)", v.figure(0, 6), -5);
    }

    private static void refusing() {
        Village v = village(3, 1);
        Check.read(v, "pay 10 + money;");
        int a = v.order(5);
        v.need(a, 1, 0, -1);
        v.need(a, 1, 1, -1);
        int b = v.order(5);
        v.need(b, 1, 0, -1);
        c.due("refuse of an open one", v.refuse(a), -1);
        c.due("refuse of none", v.refuse(2), -1);
        c.due("refuse(-1)", v.refuse(-1), -1);
        c.due("box()", v.box(), 10);
        // Family 0 got 10 and 20, family 1 got 10; the text that came since does not matter.
        Check.read(v, "pay 1000;");
        c.due("refuse(a)", v.refuse(a), 2);
        c.due("money(0)", v.money(0), 20);
        c.due("money(1)", v.money(1), 0);
        c.due("figure(0, 5)", v.figure(0, 5), -1);
        c.due("figure(0, 6)", v.figure(0, 6), 0);
        c.due("figure(1, 6)", v.figure(1, 6), 20);
        packed(v, a);
        packed(v, b, 1);
        c.due("refuse(a) again", v.refuse(a), -1);
        c.due("money(0)", v.money(0), 20);
        c.due("count(6)", v.count(6), 1);
        c.due("box(): the refused one is not open", v.box(), 0);
        boxed(v, 2, 1);
        int d = v.order(3);
        v.need(d, 2, 0, -1);
        c.due("box(): its figures may go out again", v.box(), 3);
        packed(v, d, 0, 2);
        c.due("money(0)", v.money(0), 2020);
        c.due("told(a, 2)", v.told(a, 2), 2);
    }

    private static void finding() {
        Village v = village(6, 0);
        v.lot(0);
        v.lot(0);
        v.lot(1);
        v.paint(0, 0, 0);
        v.paint(1, 1, 2);
        v.paint(0, 3, 3);
        orders(v, new int[] {1, 2}, new int[] {1, 1}, new int[] {1, 2});
        c.due("found(0, 0): in no box yet", v.found(0, 0), -1);
        v.box();
        int[][] due = {{0, 2, -1}, {0, 1, -1}, {-1, -1, -1}};
        for (int lot = 0; lot < due.length; lot++) {
            for (int i = 0; i < 3; i++) {
                c.due("found(" + lot + ", " + i + ")", v.found(lot, i), due[lot][i]);
            }
            c.due("found(" + lot + ", -1)", v.found(lot, -1), -1);
        }
        c.due("found(3, 0)", v.found(3, 0), -1);
        c.due("found(-1, 0)", v.found(-1, 0), -1);
        v.refuse(0);
        c.due("found(0, 0)", v.found(0, 0), 2);
        c.due("found(0, 1)", v.found(0, 1), -1);
        c.due("found(1, 0)", v.found(1, 0), 1);
    }
}
