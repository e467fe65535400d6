/** Promises 2 and 3: feed and back. */
public final class TapeTest {
    public static void main(String[] args) {
        Check c = new Check("TapeTest");
        limits(c);
        bytesInOrder(c);
        c.end();
    }

    private static void limits(Check c) {
        Village v = new Village();
        for (int i = 1; i <= 100; i++) {
            c.due("feed " + i, v.feed(0, 0, 0, 0, 0), 20 * i);
        }
        c.due("feed beyond 2000", v.feed(0, 0, 0, 0, 0), -1);
        c.due("count(11)", v.count(11), 2000);
        c.due("back(19)", v.back(19), 1981);
        c.due("feed with room for 19", v.feed(0, 0, 0, 0, 0), -1);
        c.due("count(11)", v.count(11), 1981);
        c.due("back(1)", v.back(1), 1980);
        c.due("feed with room for 20", v.feed(0, 0, 0, 0, 0), 2000);
        c.due("back(-1)", v.back(-1), -1);
        c.due("back(min)", v.back(Integer.MIN_VALUE), -1);
        c.due("back(2001)", v.back(2001), -1);
        c.due("back(max)", v.back(Integer.MAX_VALUE), -1);
        c.due("count(11)", v.count(11), 2000);
        c.due("back(0)", v.back(0), 2000);
        c.due("back(2000)", v.back(2000), 0);
        c.due("back(1)", v.back(1), -1);
        c.due("read()", v.read(), 0);
    }

    private static void bytesInOrder(Check c) {
        Village v = new Village();
        // Each byte of the five ints in turn is the first that is no blank.
        for (int i = 0; i < 20; i++) {
            int[] words = {0x20202020, 0x20202020, 0x20202020, 0x20202020, 0x20202020};
            int shift = 24 - 8 * (i % 4);
            words[i / 4] ^= (0x20 ^ 0xFF) << shift;
            c.due("feed", v.feed(words[0], words[1], words[2], words[3], words[4]), 20);
            c.due("read() of byte " + i, v.read(), 1);
            c.due("place()", v.place(), i);
        }
        // What goes are the last bytes; what stays is joined by what comes.
        Check.type(v, "give 1;@");
        c.due("back(1)", v.back(1), 7);
        Check.type(v, "pay 2;");
        c.due("count(11)", v.count(11), 13);
        c.due("read()", v.read(), 0);
        c.due("count(9)", v.count(9), 2);
        c.due("count(11)", v.count(11), 0);
    }
}
