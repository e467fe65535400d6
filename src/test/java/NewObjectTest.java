/** Promise 1: nothing is there; season 0; no rules. */
public final class NewObjectTest {
    public static void main(String[] args) {
        Check c = new Check("NewObjectTest");
        Village v = new Village();
        for (int what = 0; what <= 11; what++) {
            c.due("count(" + what + ")", v.count(what), 0);
        }
        c.due("place()", v.place(), -1);
        c.due("may(0, 0, 0)", v.may(0, 0, 0), -1);
        c.due("own(0, 0)", v.own(0, 0), false);
        c.due("lend(0, 1, 0, 1)", v.lend(0, 1, 0, 1), false);
        c.due("give()", v.give(), 0);
        c.due("paint(0, 0, 0)", v.paint(0, 0, 0), -1);
        c.due("need(0, 1, 0, -1)", v.need(0, 1, 0, -1), -1);
        c.due("box()", v.box(), 0);
        c.due("refuse(0)", v.refuse(0), -1);
        c.due("ring(0, 0)", v.ring(0, 0), -1);
        c.due("figure(0, 0)", v.figure(0, 0), -1);
        c.due("packed(0, 0)", v.packed(0, 0), -1);
        c.due("told(0, 0)", v.told(0, 0), -1);
        c.due("found(0, 0)", v.found(0, 0), -1);
        c.due("rest(0, -1)", v.rest(0, -1), -1);
        c.due("money(0)", v.money(0), 0);
        c.due("load(0, 0)", v.load(0, 0), -1);
        c.due("waste(0)", v.waste(0), -1);
        c.due("back(0)", v.back(0), 0);
        c.due("back(1)", v.back(1), -1);
        c.due("read()", v.read(), 0);

        Village other = new Village();
        v.kind(1, 1, 1);
        v.season();
        c.due("count(0) of another object", other.count(0), 0);
        c.due("count(10) of another object", other.count(10), 0);
        c.end();
    }
}
