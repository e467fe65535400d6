/** Promises 16, 17 and 23: order, need and told. */
public final class OrderTest {
    private static final Check c = new Check("OrderTest");

    public static void main(String[] args) {
        orders();
        needs();
        told();
        c.end();
    }

    private static void orders() {
        Village v = new Village();
        for (int worth : new int[] {-1, 1001, Integer.MIN_VALUE, Integer.MAX_VALUE}) {
            c.due("order(" + worth + ")", v.order(worth), -1);
        }
        c.due("count(8)", v.count(8), 0);
        c.due("order(0)", v.order(0), 0);
        c.due("order(1000)", v.order(1000), 1);
        for (int i = 2; i < 8; i++) {
            c.due("order(5)", v.order(5), i);
        }
        c.due("a ninth order", v.order(5), -1);
        c.due("count(8)", v.count(8), 8);
        c.due("told(1, 1)", v.told(1, 1), 1000);
    }

    private static void needs() {
        Village v = new Village();
        v.kind(1, 1, 1);
        v.kind(1, 1, 1);
        v.order(5);
        v.order(6);
        int[][] wrong = {{2, 1, 0, 0}, {-1, 1, 0, 0}, {0, 0, 0, 0}, {0, 21, 0, 0}, {0, -1, 0, 0},
            {0, 1, 2, 0}, {0, 1, -1, 0}, {0, 1, 0, 5}, {0, 1, 0, -2}, {Integer.MAX_VALUE, 1, 0, 0},
            {0, Integer.MIN_VALUE, 0, 0}, {0, 1, Integer.MIN_VALUE, 0}, {0, 1, 0, Integer.MIN_VALUE}};
        for (int[] w : wrong) {
            c.due("need wrong", v.need(w[0], w[1], w[2], w[3]), -1);
        }
        c.due("told(0, 3)", v.told(0, 3), 0);
        c.due("need(0, 1, 0, 0)", v.need(0, 1, 0, 0), 0);
        c.due("need(0, 20, 1, 4)", v.need(0, 20, 1, 4), 1);
        c.due("need(1, 2, 1, 4)", v.need(1, 2, 1, 4), 0);
        c.due("need(0, 3, 0, -1)", v.need(0, 3, 0, -1), 2);
        c.due("need(0, 3, 0, -1)", v.need(0, 3, 0, -1), 3);
        c.due("a fifth need", v.need(0, 3, 0, -1), -1);
        c.due("told(0, 2)", v.told(0, 2), 27);
        c.due("told(0, 3)", v.told(0, 3), 4);
        c.due("told(1, 2)", v.told(1, 2), 2);
        c.due("told(1, 3)", v.told(1, 3), 1);
        v.order(0);
        c.due("box()", v.box(), 0);
        c.due("a need of one that is boxed", v.need(2, 1, 0, 0), -1);
        c.due("told(2, 3)", v.told(2, 3), 0);
        v.refuse(2);
        c.due("a need of one that is refused", v.need(2, 1, 0, 0), -1);
        c.due("a need of one that is open", v.need(1, 1, 0, 0), 1);
    }

    private static void told() {
        Village v = new Village();
        v.kind(1, 1, 1);
        v.order(7);
        v.order(8);
        v.need(1, 1, 0, -1);
        int[] fresh = {0, 7, 0, 0, -1};
        for (int what = 0; what < fresh.length; what++) {
            c.due("told(0, " + what + ")", v.told(0, what), fresh[what]);
        }
        v.season();
        v.season();
        c.due("box()", v.box(), 7);
        int[] boxed = {1, 7, 0, 0, 2};
        for (int what = 0; what < boxed.length; what++) {
            c.due("told(0, " + what + ")", v.told(0, what), boxed[what]);
        }
        v.season();
        c.due("refuse(0)", v.refuse(0), 0);
        int[] refused = {2, 7, 0, 0, 2};
        for (int what = 0; what < refused.length; what++) {
            c.due("told(0, " + what + ")", v.told(0, what), refused[what]);
        }
        c.due("told(1, 0)", v.told(1, 0), 0);
        c.due("told(1, 4)", v.told(1, 4), -1);
        c.due("box()", v.box(), 0);
        c.due("told(0, 0): not open again", v.told(0, 0), 2);
        c.due("told(0, 5)", v.told(0, 5), -1);
        c.due("told(0, -1)", v.told(0, -1), -1);
        c.due("told(2, 0)", v.told(2, 0), -1);
        c.due("told(-1, 0)", v.told(-1, 0), -1);
    }
}
