/** Villages that several tests begin with. */
final class Scenes {
    private Scenes() {
    }

    /** One family of two hands that owns the only kind, of one unit, so many slices and worth 7. */
    static Village workshop(int slices) {
        Village v = new Village();
        v.kind(1, slices, 7);
        v.family(2, false);
        v.own(0, 0);
        return v;
    }

    /** A workshop with so many figures, each of a ring of its own: 60 at most. */
    static Village figures(int many) {
        Village v = workshop(1);
        v.log(many, 0);
        v.give();
        return v;
    }

    /** A workshop with 400 figures, ten of each ring. */
    static Village allFigures() {
        Village v = workshop(10);
        v.log(40, 0);
        v.give();
        return v;
    }

    /** What the E of a pay rule is, of a family with two hands and a kind of worth 7. */
    static int valueOf(String e) {
        return paid(figures(1), "pay " + e + ";");
    }

    static boolean holds(String condition) {
        return paid(figures(1), "pay 1 if " + condition + ";") == 1;
    }

    /** What the text gives for one more figure of kind 0 that comes into a box. */
    static int paid(Village v, String text) {
        if (Check.read(v, text) != 0) {
            throw new IllegalArgumentException("a fault in " + text);
        }
        int order = v.order(0);
        v.need(order, 1, 0, -1);
        v.box();
        return v.figure(v.packed(order, 0), 6);
    }

    /** Something of everything, nothing full: what waits, is painted, boxed, refused, open, unread. */
    static void busy(Village v) {
        v.kind(2, 2, 5);
        v.kind(1, 3, 1);
        v.kind(3, 1, 9);
        v.family(2, false);
        v.family(5, true);
        v.family(1, false);
        v.own(0, 0);
        v.own(1, 1);
        v.lend(0, 2, 0, 4);
        Check.read(v, "give hands if kind == 0; give 0 - load; bar widow == 1 and 9 <= load; pay worth + hands;");
        v.log(9, 0b100);
        v.give();
        v.lot(2);
        v.lot(4);
        v.paint(0, 0, 2);
        v.paint(1, 3, 3);
        v.order(5);
        v.need(0, 1, 0, 2);
        v.order(7);
        v.need(1, 2, 0, -1);
        v.box();
        v.refuse(1);
        v.season();
        v.log(7, 0);
        v.order(30);
        v.need(2, 1, 0, -1);
        v.need(2, 20, 1, -1);
        v.order(3);
        v.need(3, 1, 0, 4);
        v.need(3, 1, 0, 3);
        v.need(3, 1, 1, -1);
        v.need(3, 1, 2, -1);
        Check.read(v, "pay 1; pay");
        Check.type(v, "give 1; pay 2;");
    }

    /** As much of everything as there may be, in the last season. */
    static void full(Village v) {
        for (int i = 0; i < 8; i++) {
            v.kind(1 + i, 2, 1);
            v.family(1 + i, i % 2 == 1);
        }
        v.own(0, 0);
        v.own(7, 7);
        for (int i = 0; i < 100; i++) {
            v.lend(7, i % 7, 7, 1 + i % 40);
        }
        v.lot(0);
        for (int i = 1; i < 20; i++) {
            v.lot(i % 5);
        }
        Check.read(v, "pay hands; bar season == 40; ".repeat(10));
        for (int i = 0; i < 4; i++) {
            v.log(i < 3 ? 60 : 20, 0);
        }
        for (int i = 4; i < 30; i++) {
            v.log(1 + i, (1L << 1 + i) - 1);
        }
        for (int s = 0; s < 39; s++) {
            v.season();
        }
        v.give();
        v.paint(0, 0, 9);
        orders(v);
        for (int i = 0; i < 100; i++) {
            v.feed(0x70617920, 0x373B2020, 0x20202020, 0x20202020, 0x20202020);
        }
    }

    /** Four boxed, one refused, three open; four needs each. */
    private static void orders(Village v) {
        for (int order = 0; order < 8; order++) {
            v.order(100 * order);
            for (int need = 0; need < 4; need++) {
                v.need(order, 20, order < 5 ? 0 : 1, -1);
            }
        }
        v.box();
        v.refuse(4);
    }
}
