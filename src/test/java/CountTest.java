/** Promise 29: count. */
public final class CountTest {
    public static void main(String[] args) {
        Check c = new Check("CountTest");
        Village v = new Village();
        v.kind(1, 2, 5);
        v.kind(9, 1, 5);
        v.kind(9, 1, 5);
        v.family(1, true);
        v.family(2, true);
        v.own(0, 0);
        v.log(3, 0);
        Check.read(v, "bar 4 <= load; pay 1;");
        v.give();
        v.lot(0);
        v.lot(0);
        v.lot(0);
        v.lot(0);
        for (int i = 0; i < 5; i++) {
            v.order(1);
        }
        v.need(0, 3, 0, -1);
        v.box();
        for (int s = 0; s < 7; s++) {
            v.season();
        }
        v.feed(0, 0, 0, 0, 0);
        v.back(7);
        v.log(1, 1);
        int[] due = {3, 2, 2, 3, 1, 4, 3, 4, 5, 2, 7, 13};
        for (int what = 0; what < due.length; what++) {
            c.due("count(" + what + ")", v.count(what), due[what]);
        }
        c.due("count(-1)", v.count(-1), -1);
        c.due("count(12)", v.count(12), -1);
        c.due("count(min)", v.count(Integer.MIN_VALUE), -1);
        c.due("count(max)", v.count(Integer.MAX_VALUE), -1);
        c.end();
    }
}
