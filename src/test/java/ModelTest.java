import java.util.ArrayList;
import java.util.List;
import java.util.Random;
import java.util.function.ToIntFunction;

/** All promises: runs of calls by chance, always the same ones, against the Model. */
public final class ModelTest {
    private static final int RUNS = 1500;
    /** More than the calls of one step, a text of 600 bytes. */
    private static final int STEP_CALLS = 40;
    /** Only one run in so many is looked at as a whole at last, for that takes long. */
    private static final int LOOKED_AT = 7;
    private static final int[] EDGES = {-2, -1, 0, 1, 2, 3, 4, 5, 8, 9, 10, 12, 13, 20, 21, 39, 40, 41, 60, 61,
        100, 101, 199, 200, 399, 400, 1000, 1001, 2000, Integer.MAX_VALUE, Integer.MIN_VALUE};

    private static final Check c = new Check("ModelTest");

    private final Random random;
    private final int run;
    /** Some runs have few kinds of calls go astray, some have many. */
    private final int astray;
    private final boolean smallWorths;
    private Village v = new Village();
    private final Model m = new Model();
    /** The calls that may have changed something. */
    private final List<ToIntFunction<Village>> acts = new ArrayList<>();
    private int calls = 0;

    private ModelTest(int run) {
        this.run = run;
        random = new Random(run);
        astray = random.nextInt(3) * 6;
        smallWorths = random.nextBoolean();
    }

    public static void main(String[] args) {
        for (int run = 0; run < RUNS; run++) {
            new ModelTest(run).go();
        }
        c.end();
    }

    private void go() {
        int start = 1 + random.nextInt(6);
        for (int i = 0; i < start; i++) {
            kind();
            family();
            own();
        }
        while (v.left() > STEP_CALLS) {
            step();
        }
        while (v.left() > 0) {
            look();
        }
        if (run % LOOKED_AT == 0) {
            lookAtAll();
        }
    }

    private void act(String call, ToIntFunction<Village> act, int want) {
        acts.add(act);
        due(call, act.applyAsInt(v), want);
    }

    /** The village; if all its calls are made, another one by the same acts. */
    private Village again() {
        if (v.left() == 0) {
            v = new Village();
            for (ToIntFunction<Village> act : acts) {
                act.applyAsInt(v);
            }
        }
        return v;
    }

    private void due(String call, int got, int want) {
        calls++;
        c.due("run " + run + " call " + calls + ": " + call, got, want);
    }

    /** Mostly from least to most, now and then anything. */
    private int pick(int least, int most) {
        if (random.nextInt(100) < astray) {
            return random.nextBoolean() ? EDGES[random.nextInt(EDGES.length)]
                    : (random.nextBoolean() ? least - 1 : most + 1);
        }
        return most < least ? least : least + random.nextInt(most - least + 1);
    }

    private void step() {
        switch (random.nextInt(34)) {
            case 0 -> kind();
            case 1 -> family();
            case 2, 3 -> own();
            case 4, 5 -> lend();
            case 6 -> may();
            case 7 -> season();
            case 8, 9, 10 -> log();
            case 11, 12, 13 -> act("give()", x -> x.give(), m.give());
            case 14 -> lot();
            case 15, 16, 17 -> paint();
            case 18 -> order();
            case 19, 20, 21 -> need();
            case 22 -> act("box()", x -> x.box(), m.box());
            case 23 -> refuse();
            case 24, 25 -> text();
            case 26 -> tape();
            default -> look();
        }
    }

    private void season() {
        if (random.nextInt(3) == 0 || run % 10 == 0) {
            act("season", x -> x.season(), m.season());
        }
    }

    private void kind() {
        int width = pick(1, smallWorths ? 4 : 9);
        int slices = pick(1, smallWorths ? 3 : 12);
        int worth = pick(0, smallWorths ? 4 : 100);
        act("kind", x -> x.kind(width, slices, worth), m.kind(width, slices, worth));
    }

    private void family() {
        int hands = pick(1, 9);
        boolean widow = random.nextBoolean();
        act("family", x -> x.family(hands, widow), m.family(hands, widow));
    }

    private void own() {
        int f = pick(0, m.families.size() - 1);
        int k = pick(0, m.kinds.size() - 1);
        act("own", x -> x.own(f, k) ? 1 : 0, m.own(f, k) ? 1 : 0);
    }

    private void lend() {
        int from = pick(0, m.families.size() - 1);
        int to = pick(0, m.families.size() - 1);
        int k = pick(0, m.kinds.size() - 1);
        int until = pick(m.now, Math.min(m.now + 6, 40));
        act("lend", x -> x.lend(from, to, k, until) ? 1 : 0, m.lend(from, to, k, until) ? 1 : 0);
    }

    private void may() {
        int f = pick(0, m.families.size() - 1);
        int k = pick(0, m.kinds.size() - 1);
        int s = pick(0, 39);
        due("may", again().may(f, k, s), m.may(f, k, s));
    }

    private void log() {
        int length = pick(1, random.nextInt(3) == 0 ? 60 : 15);
        long bits = random.nextLong() & random.nextLong() & random.nextLong();
        boolean within = length >= 1 && length <= 60 && random.nextInt(100) >= astray;
        long flaws = within ? bits & (1L << length) - 1 : bits;
        act("log(" + length + ", " + flaws + ")", x -> x.log(length, flaws), m.log(length, flaws));
    }

    private void lot() {
        int colour = pick(0, 4);
        act("lot", x -> x.lot(colour), m.lot(colour));
    }

    private void paint() {
        int lot = pick(0, m.lots.size() - 1);
        int a = pick(0, m.figures.size() - 1);
        int b = random.nextInt(100) < astray ? pick(0, m.figures.size() - 1)
                : Math.min(a + random.nextInt(8), m.figures.size() - 1);
        act("paint", x -> x.paint(lot, a, b), m.paint(lot, a, b));
    }

    private void order() {
        int worth = pick(0, smallWorths ? 3 : 1000);
        act("order", x -> x.order(worth), m.order(worth));
    }

    private void need() {
        int order = pick(0, m.orders.size() - 1);
        int many = pick(1, random.nextInt(3) == 0 ? 20 : 3);
        int k = pick(0, m.kinds.size() - 1);
        int colour = pick(-1, 4);
        act("need", x -> x.need(order, many, k, colour), m.need(order, many, k, colour));
    }

    private void refuse() {
        int order = pick(0, m.orders.size() - 1);
        act("refuse", x -> x.refuse(order), m.refuse(order));
    }

    private void tape() {
        if (random.nextInt(4) > 0) {
            int n = pick(0, 12);
            act("back", x -> x.back(n), m.back(n));
        } else {
            act("read", x -> x.read(), m.read());
            due("place", again().place(), m.place);
        }
    }

    private void text() {
        String text = new RandomText(random).text();
        byte[] bytes = text.getBytes(java.nio.charset.StandardCharsets.ISO_8859_1);
        byte[] padded = java.util.Arrays.copyOf(bytes, (bytes.length + 19) / 20 * 20);
        for (int at = 0; at < padded.length; at += 20) {
            int[] w = new int[5];
            for (int i = 0; i < 5; i++) {
                w[i] = Check.word(padded, at + 4 * i);
            }
            act("feed", x -> x.feed(w[0], w[1], w[2], w[3], w[4]), m.feed(w));
        }
        int filled = padded.length - bytes.length;
        act("back", x -> x.back(filled), m.back(filled));
        if (random.nextInt(12) > 0) {
            act("read of [" + m.tape + "]", x -> x.read(), m.read());
            due("place of [" + text + "]", again().place(), m.place);
        }
    }

    private void look() {
        int r = pick(0, m.rings.size() - 1);
        int f = pick(0, m.figures.size() - 1);
        int o = pick(0, m.orders.size() - 1);
        int fam = pick(0, m.families.size() - 1);
        int what = pick(0, 11);
        switch (random.nextInt(11)) {
            case 0 -> due("ring", again().ring(r, what), m.ring(r, what));
            case 1 -> due("figure", again().figure(f, what), m.figure(f, what));
            case 2 -> due("packed", again().packed(o, what), m.packed(o, what));
            case 3 -> due("told", again().told(o, what), m.told(o, what));
            case 4 -> {
                int lot = pick(0, m.lots.size() - 1);
                int i = pick(0, 3);
                due("found", again().found(lot, i), m.found(lot, i));
            }
            case 5 -> {
                int k = pick(0, m.kinds.size() - 1);
                int colour = pick(-1, 4);
                due("rest", again().rest(k, colour), m.rest(k, colour));
            }
            case 6 -> due("money", again().money(fam), m.money(fam));
            case 7 -> {
                int s = pick(0, m.now);
                due("load", again().load(fam, s), m.load(fam, s));
            }
            case 8 -> {
                int log = pick(0, m.wastes.size() - 1);
                due("waste", again().waste(log), m.waste(log));
            }
            case 9 -> due("place", again().place(), m.place);
            default -> due("count", again().count(what), m.count(what));
        }
    }

    /** What all looks answer, which may be far more than the calls of one object. */
    private void lookAtAll() {
        for (int what = 0; what < 12; what++) {
            due("count(" + what + ") at last", again().count(what), m.count(what));
            for (int r = 0; r < m.rings.size(); r++) {
                due("ring at last", again().ring(r, what), m.ring(r, what));
            }
            for (int f = 0; f < m.figures.size(); f++) {
                due("figure at last", again().figure(f, what), m.figure(f, what));
            }
            for (int o = 0; o < m.orders.size(); o++) {
                due("told at last", again().told(o, what), m.told(o, what));
                due("packed at last", again().packed(o, what), m.packed(o, what));
            }
        }
        for (int f = 0; f < m.families.size(); f++) {
            due("money at last", again().money(f), m.money(f));
            for (int s = 0; s < 40; s++) {
                due("load at last", again().load(f, s), m.load(f, s));
                for (int k = 0; k < m.kinds.size(); k++) {
                    due("may at last", again().may(f, k, s), m.may(f, k, s));
                }
            }
        }
        for (int lot = 0; lot < m.lots.size(); lot++) {
            for (int i = 0; i < 8; i++) {
                due("found at last", again().found(lot, i), m.found(lot, i));
            }
        }
        for (int log = 0; log < m.wastes.size(); log++) {
            due("waste at last", again().waste(log), m.waste(log));
        }
    }

    /** Texts by the grammar, some of them with a few bytes or tokens changed. */
    private static final class RandomText {
        private static final String[] VARS = {"hands", "widow", "load", "money", "kind", "worth", "slices", "season"};
        private static final String[] RELATIONS = {"==", "!=", "<", "<="};
        private static final String[] STRANGE = {"", ";", "+", "(", ")", "if", "and", "or", "give", "bar", "pay", "=",
            "!", "<", "12345", "handshands", "@", "\u00e9", "7", "load", "=="};

        private final Random random;
        private final List<String> tokens = new ArrayList<>();

        RandomText(Random random) {
            this.random = random;
        }

        String text() {
            int rules = random.nextInt(20) == 0 ? 18 + random.nextInt(5) : random.nextInt(6);
            for (int i = 0; i < rules; i++) {
                rule();
            }
            if (random.nextInt(20) == 0) {
                rule();
                nest(5 + random.nextInt(4));
            }
            int changes = random.nextInt(4) == 0 ? 1 + random.nextInt(2) : 0;
            for (int i = 0; i < changes && !tokens.isEmpty(); i++) {
                tokens.set(random.nextInt(tokens.size()), STRANGE[random.nextInt(STRANGE.length)]);
            }
            String text = spaced();
            return random.nextInt(15) == 0 ? text.substring(0, random.nextInt(text.length() + 1)) : text;
        }

        private String spaced() {
            StringBuilder text = new StringBuilder();
            for (String token : tokens) {
                boolean must = text.length() > 0 && !token.isEmpty()
                        && Character.isLetterOrDigit(text.charAt(text.length() - 1))
                        && Character.isLetterOrDigit(token.charAt(0)) && random.nextInt(60) > 0;
                if (must || random.nextInt(4) == 0) {
                    text.append("\t\n\r ".charAt(random.nextInt(4)));
                }
                text.append(token);
            }
            return text.substring(0, Math.min(text.length(), 600));
        }

        private void rule() {
            int sort = random.nextInt(6);
            if (sort == 0) {
                tokens.add("bar");
                condition();
            } else {
                tokens.add(sort < 3 ? "give" : "pay");
                sum(0);
                if (random.nextInt(3) > 0) {
                    tokens.add("if");
                    condition();
                }
            }
            tokens.add(";");
        }

        private void nest(int depth) {
            tokens.add("pay");
            for (int i = 0; i < depth; i++) {
                tokens.add("(");
            }
            tokens.add("1");
            for (int i = 0; i < depth; i++) {
                tokens.add(")");
            }
            tokens.add(";");
        }

        private void condition() {
            relation();
            while (random.nextInt(3) == 0) {
                tokens.add(random.nextBoolean() ? "and" : "or");
                relation();
            }
        }

        private void relation() {
            sum(0);
            tokens.add(RELATIONS[random.nextInt(4)]);
            sum(0);
        }

        private void sum(int depth) {
            product(depth);
            while (random.nextInt(4) == 0) {
                tokens.add(random.nextBoolean() ? "+" : "-");
                product(depth);
            }
        }

        private void product(int depth) {
            unit(depth);
            while (random.nextInt(5) == 0) {
                tokens.add("*");
                unit(depth);
            }
        }

        private void unit(int depth) {
            int sort = random.nextInt(8);
            if (sort == 0 && depth < 8) {
                tokens.add("(");
                sum(depth + 1);
                tokens.add(")");
            } else if (sort < 4) {
                int most = random.nextInt(3) == 0 ? 10000 : 6;
                tokens.add(Integer.toString(random.nextInt(most)));
            } else {
                tokens.add(VARS[random.nextInt(VARS.length)]);
            }
        }
    }
}
