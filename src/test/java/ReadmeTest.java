import java.io.IOException;
import java.nio.ByteBuffer;
import java.nio.charset.StandardCharsets;
import java.nio.file.Files;
import java.nio.file.Path;
import java.util.Arrays;
import java.util.regex.Matcher;
import java.util.regex.Pattern;

/** What README.md shows is so: its code stands here line by line, and its answers are due. */
public final class ReadmeTest {
    private static final Check c = new Check("ReadmeTest");

    public static void main(String[] args) throws IOException {
        example();
        String readme = Files.readString(Path.of("README.md"));
        rulesAreRead(readme);
        linesStandHere(readme);
        testsAreNamed(readme);
        c.end();
    }

    private static void example() {
        ToyVillage v = new ToyVillage();
        int horse = v.kind(3, 2, 5);
        c.due("horse", horse, 0);
        int family = v.family(2, false);
        c.due("family", family, 0);
        boolean owns = v.own(family, horse);
        c.due("owns", owns, true);
        type(v, "pay worth + hands;");
        int fault = v.read();
        c.due("fault", fault, 0);
        int log = v.log(7, 0b1000);
        c.due("log", log, 0);
        c.due("two rings are cut", v.count(3), 2);
        int given = v.give();
        c.due("given", given, 2);
        c.due("figures 0 .. 3", v.count(5), 4);
        int red = v.lot(1);
        c.due("red", red, 0);
        int painted = v.paint(red, 0, 1);
        c.due("painted", painted, 2);
        int order = v.order(50);
        c.due("order", order, 0);
        int one = v.need(order, 1, horse, 1);
        c.due("one", one, 0);
        int two = v.need(order, 2, horse, -1);
        c.due("two", two, 1);
        int worth = v.box();
        c.due("worth", worth, 50);
        int last = v.packed(order, 2);
        c.due("last", last, 2);
        int ring = v.figure(last, 0);
        c.due("ring", ring, 1);
        int ofLog = v.ring(ring, 0);
        c.due("ofLog", ofLog, 0);
        int first = v.found(red, 0);
        c.due("first", first, 0);
        int money = v.money(family);
        c.due("money", money, 21);
        int freed = v.refuse(order);
        c.due("freed", freed, 3);
        c.due("the pay is taken back", v.money(family), 0);
    }

    static void type(ToyVillage v, String text) {
        byte[] bytes = text.getBytes(StandardCharsets.US_ASCII);
        int padded = (bytes.length + 19) / 20 * 20;
        ByteBuffer b = ByteBuffer.wrap(Arrays.copyOf(bytes, padded));
        while (b.hasRemaining()) {
            v.feed(b.getInt(), b.getInt(), b.getInt(), b.getInt(), b.getInt());
        }
        v.back(padded - bytes.length);
    }

    private static void rulesAreRead(String readme) {
        ToyVillage v = new ToyVillage();
        String rules = block(readme, "text");
        type(v, rules);
        c.due("bytes on the tape", v.count(11), rules.length());
        c.due("the fault of the rules", v.read(), 0);
        c.due("rules", v.count(9), rules.lines().count());
    }

    /** Each line of the blocks of code stands in this file, and so does the answer behind it. */
    private static void linesStandHere(String readme) throws IOException {
        String here = Files.readString(Path.of("src/test/java/ReadmeTest.java"));
        Pattern answer = Pattern.compile("\\w+ (\\w+) = .*// (\\w+).*");
        String rest = readme;
        int blocks = 0;
        while (rest.contains("```java\n")) {
            for (String line : block(rest, "java").split("\n")) {
                String code = line.replaceAll("//.*", "").strip();
                c.due("[" + code + "] stands here", here.contains(code + "\n"), true);
                Matcher m = answer.matcher(line);
                if (m.matches()) {
                    String due = "c.due(\"" + m.group(1) + "\", " + m.group(1) + ", " + m.group(2) + ");";
                    c.due("[" + due + "] stands here", here.contains(due), true);
                }
            }
            rest = rest.substring(rest.indexOf("```java\n") + 1);
            blocks++;
        }
        c.due("blocks of code", blocks, 2);
    }

    private static void testsAreNamed(String readme) throws IOException {
        try (var files = Files.list(Path.of("src/test/java"))) {
            for (Path file : files.sorted().toList()) {
                String name = file.getFileName().toString().replace(".java", "");
                c.due(name + " is in README.md", readme.contains("`" + name + "`"), true);
            }
        }
    }

    /** The first block of that sort, with a line's end behind each of its lines. */
    private static String block(String text, String sort) {
        int from = text.indexOf("```" + sort + "\n") + sort.length() + 4;
        return text.substring(from, text.indexOf("```", from));
    }
}
