import java.nio.charset.StandardCharsets;
import java.util.Arrays;

/** Counts the answers that are not as due, and feeds texts to a village. */
final class Check {
    private final String name;
    private int wrong = 0;
    private int looked = 0;

    Check(String name) {
        this.name = name;
    }

    void due(String call, long got, long want) {
        looked++;
        if (got != want) {
            wrong++;
            System.out.println(name + ": " + call + " answered " + got + ", due is " + want);
        }
    }

    void due(String call, boolean got, boolean want) {
        due(call, got ? 1 : 0, want ? 1 : 0);
    }

    void end() {
        System.out.println(name + ": " + looked + " answers, " + wrong + " not as due");
        if (wrong != 0 || looked == 0) {
            System.exit(1);
        }
    }

    /** Puts the text, and nothing else, behind the tape; its characters are bytes. */
    static void type(ToyVillage v, String text) {
        byte[] bytes = text.getBytes(StandardCharsets.ISO_8859_1);
        int blocks = (bytes.length + 19) / 20;
        byte[] padded = Arrays.copyOf(bytes, blocks * 20);
        for (int b = 0; b < blocks; b++) {
            v.feed(word(padded, b * 20), word(padded, b * 20 + 4), word(padded, b * 20 + 8),
                    word(padded, b * 20 + 12), word(padded, b * 20 + 16));
        }
        v.back(padded.length - bytes.length);
    }

    static int read(ToyVillage v, String text) {
        type(v, text);
        return v.read();
    }

    static int word(byte[] bytes, int at) {
        return (bytes[at] & 255) << 24 | (bytes[at + 1] & 255) << 16
                | (bytes[at + 2] & 255) << 8 | bytes[at + 3] & 255;
    }
}
