import java.nio.charset.StandardCharsets;

/** Promises 2 to 5: the edges of the tape, of feed, back, read and place. */
public final class TapeEdgesTest {
    private static final Check c = new Check("TapeEdgesTest");
    private static final String STRANGE = "@".repeat(20);

    public static void main(String[] args) {
        twentyBytes();
        tapeIsFull();
        lastBytesGo();
        notSoMany();
        belowNothing();
        emptyThen();
        longestText();
        placeOfTheLatest();
        c.end();
    }

    private static int feed(Village v, String twenty) {
        byte[] b = twenty.getBytes(StandardCharsets.ISO_8859_1);
        return v.feed(Check.word(b, 0), Check.word(b, 4), Check.word(b, 8), Check.word(b, 12), Check.word(b, 16));
    }

    private static Village withBlanks(int many) {
        Village v = new Village();
        Check.type(v, " ".repeat(many));
        return v;
    }

    private static void twentyBytes() {
        c.sentence("Promise 2: Twenty bytes, the highest of a first, come behind the tape: how many it has.");
        for (int i = 0; i < 20; i++) {
            Village v = withBlanks(3);
            c.due("feed of byte " + i, feed(v, " ".repeat(i) + "\u00ff" + " ".repeat(19 - i)), 23);
            c.due("read() with byte " + i, v.read(), 1);
            c.due("place() of byte " + i, v.place(), 3 + i);
        }
        Village v = new Village();
        c.due("feed", feed(v, "pay 1;pay 2;pay 3;pa"), 20);
        c.due("feed", feed(v, "y 4;pay 5;pay 6;    "), 40);
        c.due("read()", v.read(), 0);
        c.due("count(9)", v.count(9), 6);
        c.due("feed of all bits", v.feed(-1, -1, -1, -1, -1), 20);
        c.due("feed of the least", v.feed(Integer.MIN_VALUE, 0, 0, 0, 0), 40);
        c.due("read()", v.read(), 1);
        c.due("place()", v.place(), 0);
    }

    private static void tapeIsFull() {
        c.sentence("Promise 2: NONE, and nothing comes, if it would have more than 2,000.");
        for (int length : new int[] {0, 1, 19, 20, 1960, 1979, 1980}) {
            Village v = withBlanks(length);
            c.due("feed behind " + length, feed(v, STRANGE), length + 20);
            c.due("count(11)", v.count(11), length + 20);
            c.due("read()", v.read(), 1);
            c.due("place()", v.place(), length);
        }
        for (int length : new int[] {1981, 1982, 1990, 1999, 2000}) {
            Village v = withBlanks(length);
            c.due("feed behind " + length, feed(v, STRANGE), -1);
            c.due("feed behind " + length + " again", feed(v, STRANGE), -1);
            c.due("count(11)", v.count(11), length);
            c.due("read() of blanks alone", v.read(), 0);
            c.due("feed behind the read", feed(v, STRANGE), 20);
            Untouched u = new Untouched(c, x -> {
                Scenes.busy(x);
                x.back(x.count(11));
                Check.type(x, "pay 3;" + " ".repeat(length - 6));
            });
            u.by("feed behind " + length, x -> feed(x, STRANGE), -1);
        }
        Village v = withBlanks(1981);
        c.due("feed behind 1981", feed(v, STRANGE), -1);
        c.due("back(1)", v.back(1), 1980);
        c.due("feed behind 1980", feed(v, " ".repeat(19) + "@"), 2000);
        c.due("read()", v.read(), 1);
        c.due("place()", v.place(), 1999);
    }

    private static void lastBytesGo() {
        c.sentence("Promise 3: The last n bytes of the tape go: how many it has.");
        String text = "pay 1;pay 2;@@@";
        Village v = new Village();
        Check.type(v, text);
        c.due("back(0)", v.back(0), 15);
        c.due("back(3)", v.back(3), 12);
        c.due("read()", v.read(), 0);
        c.due("count(9)", v.count(9), 2);
        Check.type(v, text);
        c.due("back(2)", v.back(2), 13);
        c.due("read()", v.read(), 1);
        c.due("place()", v.place(), 12);
        Check.type(v, text);
        c.due("back(15), all", v.back(15), 0);
        c.due("back(0) of nothing", v.back(0), 0);
        c.due("feed of what comes behind", feed(v, "pay 7;" + " ".repeat(14)), 20);
        c.due("read()", v.read(), 0);
        c.due("count(9)", v.count(9), 1);
        v = withBlanks(2000);
        c.due("back(2000)", v.back(2000), 0);
        c.due("count(11)", v.count(11), 0);
    }

    private static void notSoMany() {
        c.sentence("Promise 3: NONE, and nothing goes, if it has not so many");
        for (int length : new int[] {0, 1, 19, 20, 21, 1999, 2000}) {
            for (int more : new int[] {length + 1, length + 20, 2001, Integer.MAX_VALUE}) {
                Village v = withBlanks(length);
                c.due("back(" + more + ") of " + length, v.back(more), -1);
                c.due("count(11)", v.count(11), length);
                c.due("back(" + length + ")", v.back(length), 0);
            }
        }
        Untouched u = new Untouched(c, Scenes::busy);
        u.by("back(15) of 14", x -> x.back(15), -1);
        u.by("back(MAX_VALUE)", x -> x.back(Integer.MAX_VALUE), -1);
        new Untouched(c, Scenes::full).by("back(2001) of 2000", x -> x.back(2001), -1);
    }

    private static void belowNothing() {
        c.sentence("Promise 3: or n is below 0.");
        for (int n : new int[] {-1, -2, -20, -2000, Integer.MIN_VALUE}) {
            for (int length : new int[] {0, 1, 20, 1980, 2000}) {
                Village v = withBlanks(length);
                c.due("back(" + n + ") of " + length, v.back(n), -1);
                c.due("count(11)", v.count(11), length);
            }
            new Untouched(c, Scenes::busy).by("back(" + n + ")", x -> x.back(n), -1);
        }
    }

    private static void emptyThen() {
        c.sentence("Promise 4: The tape, which is empty then, is read: 0, or the number of its FAULT.");
        String[] texts = {"", " ", "pay 1;", "pay", "@", "pay (((((((1", "pay 1;".repeat(21)};
        int[] faults = {0, 0, 0, 1, 1, 2, 2};
        for (int i = 0; i < texts.length; i++) {
            Village v = new Village();
            c.due("read() of " + texts[i], Check.read(v, texts[i]), faults[i]);
            c.due("count(11)", v.count(11), 0);
            c.due("back(1)", v.back(1), -1);
            c.due("read() of nothing", v.read(), 0);
            c.due("place()", v.place(), -1);
            c.due("count(9)", v.count(9), 0);
            c.due("feed", feed(v, "bar 1==2;" + " ".repeat(11)), 20);
            c.due("read()", v.read(), 0);
            c.due("count(9)", v.count(9), 1);
        }
    }

    private static void longestText() {
        c.sentence("Terms II: THE TEXT has 2,000 bytes at most.");
        c.reads(" ".repeat(2000), 0, -1);
        c.reads(" ".repeat(1994) + "pay 1;", 0, -1);
        c.reads(" ".repeat(1994) + "pay 1:", 1, 1999);
        c.reads(" ".repeat(1995) + "pay 1", 1, 2000);
        c.reads("pay 1;" + " ".repeat(1993) + "@", 1, 1999);
        c.reads("pay" + " ".repeat(1997), 1, 2000);
        Village v = new Village();
        Check.read(v, "pay 1;" + " ".repeat(1987) + "pay 22;");
        c.due("count(9)", v.count(9), 2);
    }

    private static void placeOfTheLatest() {
        c.sentence("Promise 5: The byte of the latest read()'s FAULT; NONE without.");
        Village v = new Village();
        c.due("place() ahead of any read()", v.place(), -1);
        v.feed(-1, 0, 0, 0, 0);
        c.due("place() ahead of any read()", v.place(), -1);
        v.read();
        c.due("place() of the first byte", v.place(), 0);
        v.feed(0, 0, 0, 0, 0);
        v.back(20);
        v.season();
        v.give();
        c.due("place() later", v.place(), 0);
        Check.read(v, "pay 1; bar");
        c.due("place() of the end", v.place(), 10);
        Check.read(v, "pay 1;".repeat(20) + " pay");
        c.due("place() of no room", v.place(), 121);
        Check.read(v, "pay 1;");
        c.due("place() without", v.place(), -1);
        Check.read(v, "pay");
        c.due("place() of the end", v.place(), 3);
        v.read();
        c.due("place() of an empty tape", v.place(), -1);
    }
}
