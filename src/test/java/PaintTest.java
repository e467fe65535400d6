/** Promises 14, 15 and 25: lot, paint and rest. */
public final class PaintTest {
    private static final Check c = new Check("PaintTest");

    public static void main(String[] args) {
        lots();
        painting();
        paintAndBoxes();
        c.end();
    }

    private static Village village(int figures) {
        Village v = new Village();
        v.kind(1, 1, 1);
        v.kind(1, 1, 0);
        v.family(1, false);
        v.own(0, 0);
        v.log(figures, 0);
        v.give();
        return v;
    }

    private static void lots() {
        Village v = new Village();
        for (int colour : new int[] {-1, 5, Integer.MIN_VALUE, Integer.MAX_VALUE}) {
            c.due("lot(" + colour + ")", v.lot(colour), -1);
        }
        c.due("count(7)", v.count(7), 0);
        for (int i = 0; i < 20; i++) {
            c.due("lot(" + i % 5 + ")", v.lot(i % 5), i);
        }
        c.due("a 21st lot", v.lot(0), -1);
        c.due("count(7)", v.count(7), 20);
    }

    private static void painting() {
        Village v = village(6);
        v.lot(4);
        v.lot(0);
        v.lot(4);
        int[][] wrong = {{3, 0, 0}, {-1, 0, 0}, {0, -1, 2}, {0, 0, 6}, {0, 6, 6}, {0, 3, 2},
            {0, Integer.MIN_VALUE, 0}, {0, 0, Integer.MAX_VALUE}};
        for (int[] w : wrong) {
            c.due("paint wrong", v.paint(w[0], w[1], w[2]), -1);
        }
        c.due("rest(0, -1)", v.rest(0, -1), 6);
        c.due("paint(0, 1, 2)", v.paint(0, 1, 2), 2);
        c.due("paint(1, 0, 3)", v.paint(1, 0, 3), 2);
        c.due("paint(2, 4, 4)", v.paint(2, 4, 4), 1);
        c.due("paint(2, 4, 4) again", v.paint(2, 4, 4), 0);
        int[] lots = {1, 0, 0, 1, 2, -1};
        for (int f = 0; f < lots.length; f++) {
            c.due("figure(" + f + ", 4)", v.figure(f, 4), lots[f]);
        }
        c.due("rest(0, 4)", v.rest(0, 4), 3);
        c.due("rest(0, 0)", v.rest(0, 0), 2);
        c.due("rest(0, 1)", v.rest(0, 1), 0);
        c.due("rest(0, -1)", v.rest(0, -1), 1);
        c.due("rest(1, -1)", v.rest(1, -1), 0);
        int[][] none = {{2, 0}, {-1, 0}, {0, 5}, {0, -2}, {Integer.MAX_VALUE, 0}, {0, Integer.MIN_VALUE}};
        for (int[] n : none) {
            c.due("rest of none such", v.rest(n[0], n[1]), -1);
        }
    }

    private static void paintAndBoxes() {
        Village v = village(4);
        v.lot(2);
        v.lot(3);
        v.paint(0, 0, 0);
        v.order(5);
        v.need(0, 2, 0, -1);
        c.due("box()", v.box(), 5);
        c.due("rest(0, 2)", v.rest(0, 2), 0);
        c.due("rest(0, -1)", v.rest(0, -1), 2);
        c.due("what is in a box is not painted", v.paint(1, 0, 2), 1);
        c.due("figure(0, 4)", v.figure(0, 4), 0);
        c.due("figure(1, 4)", v.figure(1, 4), -1);
        c.due("figure(2, 4)", v.figure(2, 4), 1);
        v.refuse(0);
        c.due("rest(0, 2)", v.rest(0, 2), 1);
        c.due("rest(0, -1)", v.rest(0, -1), 2);
        c.due("what is in no box again may be painted", v.paint(1, 0, 3), 2);
        c.due("figure(0, 4)", v.figure(0, 4), 0);
        c.due("figure(1, 4)", v.figure(1, 4), 1);
        c.due("rest(0, 3)", v.rest(0, 3), 3);
    }
}
