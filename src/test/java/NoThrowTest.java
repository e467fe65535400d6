import java.lang.reflect.InvocationTargetException;
import java.lang.reflect.Method;
import java.lang.reflect.Modifier;
import java.util.ArrayList;
import java.util.Arrays;
import java.util.Comparator;
import java.util.List;
import java.util.Random;
import java.util.Set;

/**
 * LANGUAGE.md, rule 7: no call throws, for any arguments in any state. What calls behind the 512th
 * answer is free, but they may not throw either, so these runs are longer.
 */
public final class NoThrowTest {
    private static final int MIN = Integer.MIN_VALUE;
    private static final int MAX = Integer.MAX_VALUE;
    private static final int[] FAR = {-1, 8, 9, 10, 12, 19, 20, 21, 30, 39, 40, 41, 59, 60, 61, 63, 64, 100, 101,
        199, 200, 399, 400, 1000, 1001, 1999, 2000, 2001, MIN, MIN + 1, MAX - 1, MAX, 1 << 30, -(1 << 30)};
    private static final String[] WORDS = {"give", "bar", "pay", "if", "and", "or", "hands", "widow", "load", "money",
        "kind", "worth", "slices", "season", "0", "7", "9999", "12345", "abcdefghi", ";", "+", "-", "*", "==", "!=",
        "<", "<=", "(", ")", "=", "!", "A", "\0"};
    private static final String[] TEXTS = {"", "pay 1;", "give hands * (load - money); bar load * 9999 < 0 - 1;",
        "pay 9999 * 9999 * 9999 - money;", "bar 0 == 0;", "give ((((((1))))));", "give (((((((1)))))));",
        "pay ", "bar kind != kind or season < 3 and widow <= 1; give slices * worth;"};

    // Of these a few are enough, or nothing would ever be full.
    private static final Set<String> SELDOM = Set.of("order", "box", "refuse", "season", "read", "back");

    private static final Check c = new Check("NoThrowTest");

    private final Random random;
    private final ToyVillage v = new ToyVillage();
    private final List<String> calls = new ArrayList<>();

    private NoThrowTest(int run) {
        // Near seeds begin alike, so they are spread.
        random = new Random(run * 0x9E3779B97F4A7C15L);
    }

    public static void main(String[] args) throws IllegalAccessException {
        List<Method> methods = new ArrayList<>();
        for (Method m : ToyVillage.class.getDeclaredMethods()) {
            if (Modifier.isPublic(m.getModifiers())) {
                methods.add(m);
            }
        }
        methods.sort(Comparator.comparing(Method::getName));
        for (int run = 0; run < 600; run++) {
            NoThrowTest test = new NoThrowTest(run);
            if (run % 2 == 0) {
                test.fill();
            }
            String thrown = test.run(methods, run % 3 == 0 ? 4000 : 700);
            c.due("run " + run + thrown, thrown.isEmpty(), true);
        }
        c.end();
    }

    /** All figures, four full boxes and a full tape to begin with. */
    private void fill() {
        v.kind(1, 8, 3);
        v.family(4, true);
        v.own(0, 0);
        v.log(60, 0);
        v.give();
        v.lot(2);
        v.paint(0, 0, 99);
        for (int order = 0; order < 4; order++) {
            v.order(order);
            for (int need = 0; need < 4; need++) {
                v.need(order, 20, 0, need == 0 ? 2 : -1);
            }
        }
        ReadmeTest.type(v, "pay money * 9999 + 1; give money; ");
        v.read();
        v.box();
        for (int i = 0; i < 100; i++) {
            v.feed(0x70617920, 0x373B2020, 0x20202020, 0x20202020, 0x20202020);
        }
    }

    /** What a call threw and the calls up to it, or "". */
    private String run(List<Method> methods, int many) throws IllegalAccessException {
        for (int i = 0; i < many; i++) {
            if (random.nextInt(200) == 0) {
                text();
            }
            Method m = methods.get(random.nextInt(methods.size()));
            if (SELDOM.contains(m.getName()) && random.nextInt(15) != 0) {
                continue;
            }
            Object[] arguments = arguments(m);
            calls.add(m.getName() + Arrays.toString(arguments));
            try {
                m.invoke(v, arguments);
            } catch (InvocationTargetException e) {
                return ": " + e.getCause() + " behind " + calls.subList(Math.max(0, calls.size() - 20), calls.size());
            }
        }
        return "";
    }

    private Object[] arguments(Method m) {
        Class<?>[] types = m.getParameterTypes();
        Object[] arguments = new Object[types.length];
        for (int i = 0; i < types.length; i++) {
            if (types[i] == boolean.class) {
                arguments[i] = random.nextBoolean();
            } else if (types[i] == long.class) {
                arguments[i] = flaws();
            } else {
                arguments[i] = number();
            }
        }
        return arguments;
    }

    private int number() {
        int sort = random.nextInt(20);
        return sort < 13 ? random.nextInt(8) : sort < 16 ? random.nextInt(60)
                : sort < 19 ? FAR[random.nextInt(FAR.length)] : random.nextInt();
    }

    private long flaws() {
        return random.nextInt(3) == 0 ? random.nextLong() : random.nextInt(3) == 0 ? random.nextInt(1 << 10) : 0;
    }

    private void text() {
        StringBuilder text = new StringBuilder(TEXTS[random.nextInt(TEXTS.length)]);
        if (random.nextInt(3) == 0) {
            for (int words = random.nextInt(random.nextBoolean() ? 5 : 500); words > 0; words--) {
                text.append(' ').append(WORDS[random.nextInt(WORDS.length)]);
            }
        }
        v.read();
        ReadmeTest.type(v, text.toString());
        v.read();
    }
}
