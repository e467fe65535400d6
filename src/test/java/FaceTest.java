import java.io.IOException;
import java.lang.reflect.Constructor;
import java.lang.reflect.Field;
import java.lang.reflect.Method;
import java.lang.reflect.Modifier;
import java.nio.file.Files;
import java.nio.file.Path;
import java.util.Set;
import java.util.TreeSet;
import java.util.regex.Matcher;
import java.util.regex.Pattern;

/** The public face of the document, and those rules of LANGUAGE.md that can be told by a look. */
public final class FaceTest {
    private static final String[] METHODS = {
        "int feed(int,int,int,int,int)", "int back(int)", "int read()", "int place()", "int kind(int,int,int)",
        "int family(int,boolean)", "boolean own(int,int)", "boolean lend(int,int,int,int)", "int may(int,int,int)",
        "int season()", "int log(int,long)", "int give()", "int lot(int)", "int paint(int,int,int)", "int order(int)",
        "int need(int,int,int,int)", "int box()", "int refuse(int)", "int ring(int,int)", "int figure(int,int)",
        "int packed(int,int)", "int told(int,int)", "int found(int,int)", "int rest(int,int)", "int money(int)",
        "int load(int,int)", "int waste(int)", "int count(int)"};
    private static final String FORBIDDEN = "\\b(throw|throws|try|catch|synchronized|assert|import|package|protected"
            + "|volatile|transient|native|double|float|hashCode|toString|Thread|System\\.(out|err|nanoTime"
            + "|currentTimeMillis)|Random|[a-zA-Z]+Exact)\\b|->|::";

    private static final Check c = new Check("FaceTest");

    public static void main(String[] args) throws IOException {
        publicMembers();
        hiddenMembers();
        classesInside();
        source();
        c.end();
    }

    private static String shape(Method m) {
        StringBuilder text = new StringBuilder(m.getReturnType().getName() + " " + m.getName() + "(");
        for (Class<?> type : m.getParameterTypes()) {
            text.append(text.charAt(text.length() - 1) == '(' ? "" : ",").append(type.getName());
        }
        return text.append(")").toString();
    }

    private static void publicMembers() {
        Set<String> due = new TreeSet<>(Set.of(METHODS));
        Set<String> got = new TreeSet<>();
        for (Method m : ToyVillage.class.getDeclaredMethods()) {
            if (Modifier.isPublic(m.getModifiers())) {
                got.add(shape(m));
                c.due(m + " is of an object", Modifier.isStatic(m.getModifiers()), false);
            }
        }
        c.due("the public methods " + got, got.equals(due), true);
        Constructor<?>[] constructors = ToyVillage.class.getDeclaredConstructors();
        c.due("constructors", constructors.length, 1);
        c.due("its parameters", constructors[0].getParameterCount(), 0);
        c.due("it is public", Modifier.isPublic(constructors[0].getModifiers()), true);
        c.due("NONE", ToyVillage.NONE, -1);
        int modifiers = ToyVillage.class.getModifiers();
        c.due("the class is public and final", Modifier.isPublic(modifiers) && Modifier.isFinal(modifiers), true);
    }

    private static void hiddenMembers() {
        Set<String> publicNames = new TreeSet<>();
        for (String method : METHODS) {
            publicNames.add(method.substring(method.indexOf(' ') + 1, method.indexOf('(')));
        }
        for (Method m : ToyVillage.class.getDeclaredMethods()) {
            if (!Modifier.isPublic(m.getModifiers())) {
                c.due(m + " is private", Modifier.isPrivate(m.getModifiers()), true);
                c.due(m + " bears a public one's name", publicNames.contains(m.getName()), false);
            }
            c.due(m + " takes more than seven", m.getParameterCount() > 7, false);
        }
        for (Field f : ToyVillage.class.getDeclaredFields()) {
            boolean none = f.getName().equals("NONE");
            c.due(f + " is private, or NONE", Modifier.isPrivate(f.getModifiers()) != none, true);
        }
    }

    private static void classesInside() {
        Class<?>[] inside = ToyVillage.class.getDeclaredClasses();
        c.due("more than twelve classes", inside.length + 1 > 12, false);
        for (Class<?> one : inside) {
            c.due(one + " is static", Modifier.isStatic(one.getModifiers()), true);
            c.due(one + " is public", Modifier.isPublic(one.getModifiers()), false);
            int ofObjects = 0;
            for (Field f : one.getDeclaredFields()) {
                boolean shared = Modifier.isStatic(f.getModifiers());
                ofObjects += shared ? 0 : 1;
                c.due(f + " is shared and not final", shared && !Modifier.isFinal(f.getModifiers()), false);
            }
            c.due(one + " has more than twenty fields", ofObjects > 20, false);
        }
    }

    private static void source() throws IOException {
        String text = Files.readString(Path.of("src/main/java/ToyVillage.java"));
        String code = text.replaceAll("(?s)/\\*.*?\\*/", "").replaceAll("//[^\n]*", "");
        Matcher m = Pattern.compile(FORBIDDEN).matcher(code);
        c.due("a forbidden word" + (m.find() ? ": " + m.group() : ""), m.reset().find(), false);
        c.due("characters beyond 255", text.chars().anyMatch(x -> x > 255), false);
    }
}
