import java.nio.charset.StandardCharsets;
import java.util.Arrays;

/** Counts the answers that are not as due, and feeds texts to a village. */
final class Check {
    private final String name;
    private int wrong = 0;
    private int looked = 0;
    private String sentence = "";
    private int lookedAhead = -1;

    Check(String name) {
        this.name = name;
    }

    /** What follows, up to the next one, tests these words of the document. */
    void sentence(String words) {
        endSentence();
        sentence = " [" + words + "]";
        lookedAhead = looked;
    }

    private void endSentence() {
        if (looked == lookedAhead) {
            wrong++;
            System.out.println(name + sentence + ": no answer was looked at");
        }
    }

    void due(String call, long got, long want) {
        looked++;
        if (got != want) {
            wrong++;
            System.out.println(name + sentence + ": " + call + " answered " + got + ", due is " + want);
        }
    }

    void due(String call, boolean got, boolean want) {
        due(call, got ? 1 : 0, want ? 1 : 0);
    }

    /** Of a new village: a text's fault, or 0, and its place, or NONE. */
    void reads(String text, int fault, int place) {
        Village v = new Village();
        String shown = text.length() <= 100 ? text : text.substring(0, 40) + " .. " + text.substring(text.length() - 40);
        due("read() of [" + shown + "]", read(v, text), fault);
        due("place() of [" + shown + "]", v.place(), place);
    }

    void end() {
        endSentence();
        System.out.println(name + ": " + looked + " answers, " + wrong + " not as due");
        if (wrong != 0 || looked == 0) {
            System.exit(1);
        }
    }

    /** Puts the text, and nothing else, behind the tape; its characters are bytes. */
    static void type(Village v, String text) {
        byte[] bytes = text.getBytes(StandardCharsets.ISO_8859_1);
        int blocks = (bytes.length + 19) / 20;
        byte[] padded = Arrays.copyOf(bytes, blocks * 20);
        for (int b = 0; b < blocks; b++) {
            int has = v.feed(word(padded, b * 20), word(padded, b * 20 + 4), word(padded, b * 20 + 8),
                    word(padded, b * 20 + 12), word(padded, b * 20 + 16));
            if (has < 0) {
                throw new IllegalStateException("no room for twenty bytes of [" + text + "]");
            }
        }
        v.back(padded.length - bytes.length);
    }

    static int read(Village v, String text) {
        type(v, text);
        return v.read();
    }

    static int word(byte[] bytes, int at) {
        return (bytes[at] & 255) << 24 | (bytes[at + 1] & 255) << 16
                | (bytes[at + 2] & 255) << 8 | bytes[at + 3] & 255;
    }
}
