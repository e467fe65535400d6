import java.util.ArrayList;
import java.util.List;
import java.util.Map;
import java.util.Set;
import java.util.function.Predicate;
import java.util.function.ToIntFunction;
import java.util.regex.Matcher;
import java.util.regex.Pattern;

/** A text read by recursive descent over tokens of a regular expression, for the Model. */
final class ModelText {
    private static final Pattern TOKEN = Pattern.compile("[a-z]+|[0-9]+|==|!=|<=|[;+*()<-]");
    private static final Set<String> VARS =
            Set.of("hands", "widow", "load", "money", "kind", "worth", "slices", "season");

    record Rule(String sort, ToIntFunction<Map<String, Integer>> value, Predicate<Map<String, Integer>> condition) { }

    private static final class Fault extends RuntimeException {
        private static final long serialVersionUID = 1;
        final int number;

        Fault(int number) {
            this.number = number;
        }
    }

    int fault = 0;
    int place = -1;
    final List<Rule> rules = new ArrayList<>();

    private final String source;
    private int at = 0;
    private int taken = 0;

    ModelText(String source) {
        this.source = source;
        try {
            while (!peek().isEmpty()) {
                rule();
            }
        } catch (Fault f) {
            fault = f.number;
            place = at;
            rules.clear();
        }
    }

    int first(String sort, Map<String, Integer> vars) {
        return rules.stream().filter(r -> r.sort.equals(sort) && r.condition.test(vars)).findFirst()
                .map(r -> r.value.applyAsInt(vars)).orElse(0);
    }

    boolean bars(Map<String, Integer> vars) {
        return rules.stream().anyMatch(r -> r.sort.equals("bar") && r.condition.test(vars));
    }

    /** The next token, "" at the end, "?" for what is none. */
    private String peek() {
        while (at < source.length() && "\t\n\r ".indexOf(source.charAt(at)) >= 0) {
            at++;
        }
        if (at == source.length()) {
            return "";
        }
        Matcher m = TOKEN.matcher(source).region(at, source.length());
        if (!m.lookingAt()) {
            return "?";
        }
        String token = m.group();
        int most = Character.isDigit(token.charAt(0)) ? 4 : 8;
        return token.length() > most ? "?" : token;
    }

    private String take(boolean fits, boolean room) {
        if (!fits) {
            throw new Fault(1);
        }
        if (!room || taken == 400) {
            throw new Fault(2);
        }
        String token = peek();
        at += token.length();
        taken++;
        return token;
    }

    private String take(String... either) {
        return take(List.of(either).contains(peek()), true);
    }

    private void rule() {
        String sort = take(List.of("give", "bar", "pay").contains(peek()), rules.size() < 20);
        if (sort.equals("bar")) {
            rules.add(new Rule(sort, v -> 0, condition()));
            take(";");
            return;
        }
        ToIntFunction<Map<String, Integer>> value = sum(0);
        Predicate<Map<String, Integer>> condition = v -> true;
        if (take("if", ";").equals("if")) {
            condition = condition();
            take(";");
        }
        rules.add(new Rule(sort, value, condition));
    }

    private Predicate<Map<String, Integer>> condition() {
        Predicate<Map<String, Integer>> any = all();
        while (peek().equals("or")) {
            take("or");
            any = any.or(all());
        }
        return any;
    }

    private Predicate<Map<String, Integer>> all() {
        Predicate<Map<String, Integer>> all = relation();
        while (peek().equals("and")) {
            take("and");
            all = all.and(relation());
        }
        return all;
    }

    private Predicate<Map<String, Integer>> relation() {
        ToIntFunction<Map<String, Integer>> left = sum(0);
        String sign = take("==", "!=", "<", "<=");
        ToIntFunction<Map<String, Integer>> right = sum(0);
        return v -> {
            int order = Integer.compare(left.applyAsInt(v), right.applyAsInt(v));
            return switch (sign) {
                case "==" -> order == 0;
                case "!=" -> order != 0;
                case "<" -> order < 0;
                default -> order <= 0;
            };
        };
    }

    private ToIntFunction<Map<String, Integer>> sum(int depth) {
        ToIntFunction<Map<String, Integer>> sum = product(depth);
        while (peek().equals("+") || peek().equals("-")) {
            boolean plus = take("+", "-").equals("+");
            ToIntFunction<Map<String, Integer>> left = sum;
            ToIntFunction<Map<String, Integer>> right = product(depth);
            sum = plus ? v -> left.applyAsInt(v) + right.applyAsInt(v) : v -> left.applyAsInt(v) - right.applyAsInt(v);
        }
        return sum;
    }

    private ToIntFunction<Map<String, Integer>> product(int depth) {
        ToIntFunction<Map<String, Integer>> product = unit(depth);
        while (peek().equals("*")) {
            take("*");
            ToIntFunction<Map<String, Integer>> left = product;
            ToIntFunction<Map<String, Integer>> right = unit(depth);
            product = v -> left.applyAsInt(v) * right.applyAsInt(v);
        }
        return product;
    }

    private ToIntFunction<Map<String, Integer>> unit(int depth) {
        String next = peek();
        if (next.equals("(")) {
            take(true, depth < 6);
            ToIntFunction<Map<String, Integer>> inner = sum(depth + 1);
            take(")");
            return inner;
        }
        boolean number = !next.isEmpty() && Character.isDigit(next.charAt(0));
        String token = take(number || VARS.contains(next), true);
        return number ? v -> Integer.parseInt(token) : v -> v.get(token);
    }
}
