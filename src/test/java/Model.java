import java.util.ArrayList;
import java.util.Collections;
import java.util.Comparator;
import java.util.HashMap;
import java.util.List;
import java.util.Map;
import java.util.TreeSet;

/** The document once more, written for plainness alone and in another way than the class. */
final class Model {
    static final int NONE = -1;

    record Kind(int width, int slices, int worth) { }

    record Lending(int to, int kind, int from, int until) { }

    record Need(int many, int kind, int colour) { }

    static final class Family {
        int hands;
        boolean widow;
        int money = 0;
        TreeSet<Integer> owns = new TreeSet<>();
        Map<Integer, Integer> carved = new HashMap<>();
    }

    static final class Ring {
        int log;
        int unit;
        int kind;
        int family = NONE;
        int first = NONE;
    }

    static final class Figure {
        int ring;
        int lot = NONE;
        int order = NONE;
        int pay = 0;
        int season;
    }

    static final class Order {
        int worth;
        int state = 0;
        int season = NONE;
        List<Need> needs = new ArrayList<>();
    }

    String tape = "";
    ModelText text = new ModelText("");
    int place = NONE;
    int now = 0;
    List<Kind> kinds = new ArrayList<>();
    List<Family> families = new ArrayList<>();
    List<Lending> lendings = new ArrayList<>();
    List<Integer> wastes = new ArrayList<>();
    List<Ring> rings = new ArrayList<>();
    List<Figure> figures = new ArrayList<>();
    List<Integer> lots = new ArrayList<>();
    List<Order> orders = new ArrayList<>();

    int feed(int... words) {
        if (tape.length() + 20 > 2000) {
            return NONE;
        }
        for (int w : words) {
            tape += "" + (char) (w >>> 24) + (char) (w >>> 16 & 255) + (char) (w >>> 8 & 255) + (char) (w & 255);
        }
        return tape.length();
    }

    int back(int n) {
        if (n < 0 || n > tape.length()) {
            return NONE;
        }
        tape = tape.substring(0, tape.length() - n);
        return tape.length();
    }

    int read() {
        ModelText next = new ModelText(tape);
        tape = "";
        place = next.place;
        if (next.fault == 0) {
            text = next;
        }
        return next.fault;
    }

    int kind(int width, int slices, int worth) {
        if (kinds.size() == 8 || out(width, 1, 9) || out(slices, 1, 12) || out(worth, 0, 100)) {
            return NONE;
        }
        kinds.add(new Kind(width, slices, worth));
        return kinds.size() - 1;
    }

    int family(int hands, boolean widow) {
        if (families.size() == 8 || out(hands, 1, 9)) {
            return NONE;
        }
        Family f = new Family();
        f.hands = hands;
        f.widow = widow;
        families.add(f);
        return families.size() - 1;
    }

    boolean own(int family, int kind) {
        return no(families, family) || no(kinds, kind) ? false : families.get(family).owns.add(kind);
    }

    boolean lend(int from, int to, int kind, int until) {
        if (no(families, from) || no(families, to) || no(kinds, kind) || from == to) {
            return false;
        }
        if (!families.get(from).owns.contains(kind) || until <= now || until > 40 || lendings.size() == 100) {
            return false;
        }
        return lendings.add(new Lending(to, kind, now, until));
    }

    boolean mayCarve(int family, int kind, int season) {
        return families.get(family).owns.contains(kind) || lendings.stream().anyMatch(
                l -> l.to == family && l.kind == kind && l.from <= season && season < l.until);
    }

    int may(int family, int kind, int season) {
        if (no(families, family) || no(kinds, kind) || out(season, 0, 39)) {
            return NONE;
        }
        return mayCarve(family, kind, season) ? 1 : 0;
    }

    int season() {
        return now == 39 ? NONE : ++now;
    }

    /** A way to cut the rest of a log: its steps, kinds or 99. */
    record Way(int worth, int rings, List<Integer> steps) { }

    int log(int length, long flaws) {
        if (wastes.size() == 30 || out(length, 1, 60) || flaws < 0 || flaws >= 1L << length) {
            return NONE;
        }
        Way way = bestWay(length, flaws);
        if (rings.size() + way.rings > 200) {
            return NONE;
        }
        int unit = 0;
        int waste = 0;
        for (int step : way.steps) {
            if (step == 99) {
                waste++;
                unit++;
            } else {
                Ring r = new Ring();
                r.log = wastes.size();
                r.unit = unit;
                r.kind = step;
                rings.add(r);
                unit += kinds.get(step).width;
            }
        }
        wastes.add(waste);
        return wastes.size() - 1;
    }

    private Way bestWay(int length, long flaws) {
        Comparator<Way> order = Comparator.comparingInt((Way w) -> -w.worth).thenComparingInt(w -> w.rings)
                .thenComparing((a, b) -> compare(a.steps, b.steps));
        List<Way> from = new ArrayList<>(Collections.nCopies(length + 1, new Way(0, 0, List.of())));
        for (int unit = length - 1; unit >= 0; unit--) {
            List<Way> ways = new ArrayList<>();
            Way out = from.get(unit + 1);
            ways.add(new Way(out.worth, out.rings, joined(99, out.steps)));
            for (int k = 0; k < kinds.size(); k++) {
                Kind kind = kinds.get(k);
                if (someoneMay(k) && sound(unit, kind.width, length, flaws)) {
                    Way rest = from.get(unit + kind.width);
                    ways.add(new Way(rest.worth + kind.worth * kind.slices, rest.rings + 1, joined(k, rest.steps)));
                }
            }
            from.set(unit, Collections.min(ways, order));
        }
        return from.get(0);
    }

    private boolean someoneMay(int kind) {
        for (int f = 0; f < families.size(); f++) {
            if (mayCarve(f, kind, now)) {
                return true;
            }
        }
        return false;
    }

    private static boolean sound(int unit, int width, int length, long flaws) {
        for (int u = unit; u < unit + width; u++) {
            if (u >= length || (flaws >> u) % 2 != 0) {
                return false;
            }
        }
        return true;
    }

    private static List<Integer> joined(int first, List<Integer> rest) {
        List<Integer> all = new ArrayList<>();
        all.add(first);
        all.addAll(rest);
        return all;
    }

    private static int compare(List<Integer> a, List<Integer> b) {
        for (int i = 0; i < a.size() && i < b.size(); i++) {
            if (!a.get(i).equals(b.get(i))) {
                return a.get(i) - b.get(i);
            }
        }
        return 0;
    }

    private Map<String, Integer> vars(int family, int kind) {
        Family f = families.get(family);
        Kind k = kinds.get(kind);
        Map<String, Integer> vars = new HashMap<>();
        vars.put("hands", f.hands);
        vars.put("widow", f.widow ? 1 : 0);
        vars.put("load", f.carved.getOrDefault(now, 0));
        vars.put("money", f.money);
        vars.put("kind", kind);
        vars.put("worth", k.worth);
        vars.put("slices", k.slices);
        vars.put("season", now);
        return vars;
    }

    int give() {
        int given = 0;
        for (int r = 0; r < rings.size(); r++) {
            Ring ring = rings.get(r);
            int slices = kinds.get(ring.kind).slices;
            if (ring.family != NONE || figures.size() + slices > 400) {
                continue;
            }
            int best = NONE;
            for (int f = families.size() - 1; f >= 0; f--) {
                if (mayCarve(f, ring.kind, now) && !text.bars(vars(f, ring.kind))
                        && (best == NONE || text.first("give", vars(f, ring.kind))
                                >= text.first("give", vars(best, ring.kind)))) {
                    best = f;
                }
            }
            if (best == NONE) {
                continue;
            }
            ring.family = best;
            ring.first = figures.size();
            for (int i = 0; i < slices; i++) {
                Figure figure = new Figure();
                figure.ring = r;
                figure.season = now;
                figures.add(figure);
                families.get(best).carved.merge(now, 1, Integer::sum);
            }
            given++;
        }
        return given;
    }

    int lot(int colour) {
        if (lots.size() == 20 || out(colour, 0, 4)) {
            return NONE;
        }
        lots.add(colour);
        return lots.size() - 1;
    }

    int paint(int lot, int a, int b) {
        if (no(lots, lot) || no(figures, a) || no(figures, b) || a > b) {
            return NONE;
        }
        int many = 0;
        for (Figure f : figures.subList(a, b + 1)) {
            if (f.lot == NONE && f.order == NONE) {
                f.lot = lot;
                many++;
            }
        }
        return many;
    }

    int order(int worth) {
        if (orders.size() == 8 || out(worth, 0, 1000)) {
            return NONE;
        }
        Order o = new Order();
        o.worth = worth;
        orders.add(o);
        return orders.size() - 1;
    }

    int need(int order, int many, int kind, int colour) {
        if (no(orders, order) || orders.get(order).state != 0 || orders.get(order).needs.size() == 4
                || out(many, 1, 20) || no(kinds, kind) || out(colour, -1, 4)) {
            return NONE;
        }
        orders.get(order).needs.add(new Need(many, kind, colour));
        return orders.get(order).needs.size() - 1;
    }

    int box() {
        List<List<Integer>> sets = new ArrayList<>();
        sets.add(new ArrayList<>());
        for (int o = 0; o < orders.size(); o++) {
            if (orders.get(o).state == 0) {
                List<List<Integer>> with = new ArrayList<>();
                for (List<Integer> set : sets) {
                    List<Integer> more = new ArrayList<>(set);
                    more.add(o);
                    with.add(more);
                }
                sets.addAll(with);
            }
        }
        // Of as many orders, the first by who is in is the first as a list of numbers.
        sets.sort(Comparator.comparingInt((List<Integer> s) -> -worth(s)).thenComparingInt(s -> -s.size())
                .thenComparing((a, b) -> compare(a, b)));
        for (List<Integer> set : sets) {
            int[] into = packing(set);
            if (into != null) {
                goOut(set, into);
                return worth(set);
            }
        }
        throw new IllegalStateException("the empty set can always be");
    }

    private int worth(List<Integer> set) {
        int all = 0;
        for (int o : set) {
            all += orders.get(o).worth;
        }
        return all;
    }

    /** Of each figure the order that takes it now, or NONE; null if the set can't be filled. */
    private int[] packing(List<Integer> set) {
        int[] into = new int[figures.size()];
        java.util.Arrays.fill(into, NONE);
        for (boolean any : new boolean[] {false, true}) {
            for (int o : set) {
                for (Need need : orders.get(o).needs) {
                    if ((need.colour == NONE) == any && !takes(o, need, into)) {
                        return null;
                    }
                }
            }
        }
        return into;
    }

    private boolean takes(int order, Need need, int[] into) {
        int left = need.many;
        for (int f = 0; f < into.length && left > 0; f++) {
            Figure figure = figures.get(f);
            boolean colour = need.colour == NONE || figure.lot != NONE && lots.get(figure.lot) == need.colour;
            if (figure.order == NONE && into[f] == NONE && kindOf(figure) == need.kind && colour) {
                into[f] = order;
                left--;
            }
        }
        return left == 0;
    }

    private void goOut(List<Integer> set, int[] into) {
        for (int o : set) {
            orders.get(o).state = 1;
            orders.get(o).season = now;
        }
        for (int f = 0; f < into.length; f++) {
            if (into[f] != NONE) {
                Figure figure = figures.get(f);
                int family = rings.get(figure.ring).family;
                figure.order = into[f];
                figure.pay = text.first("pay", vars(family, kindOf(figure)));
                families.get(family).money += figure.pay;
            }
        }
    }

    private int kindOf(Figure f) {
        return rings.get(f.ring).kind;
    }

    int refuse(int order) {
        if (no(orders, order) || orders.get(order).state != 1) {
            return NONE;
        }
        orders.get(order).state = 2;
        int many = 0;
        for (Figure f : figures) {
            if (f.order == order) {
                families.get(rings.get(f.ring).family).money -= f.pay;
                f.order = NONE;
                f.pay = 0;
                many++;
            }
        }
        return many;
    }

    int ring(int r, int what) {
        if (no(rings, r)) {
            return NONE;
        }
        Ring x = rings.get(r);
        return pick(what, x.log, x.unit, x.kind, x.family, x.first);
    }

    int figure(int f, int what) {
        if (no(figures, f)) {
            return NONE;
        }
        Figure x = figures.get(f);
        Ring r = rings.get(x.ring);
        return pick(what, x.ring, r.log, r.kind, r.family, x.lot, x.order, x.pay, x.season);
    }

    int packed(int order, int i) {
        List<Integer> in = new ArrayList<>();
        for (int f = 0; f < figures.size(); f++) {
            if (figures.get(f).order == order) {
                in.add(f);
            }
        }
        return no(orders, order) || no(in, i) ? NONE : in.get(i);
    }

    int told(int order, int what) {
        if (no(orders, order)) {
            return NONE;
        }
        Order o = orders.get(order);
        return pick(what, o.state, o.worth, o.needs.stream().mapToInt(Need::many).sum(), o.needs.size(), o.season);
    }

    int found(int lot, int i) {
        TreeSet<Integer> in = new TreeSet<>();
        for (Figure f : figures) {
            if (f.lot == lot && f.order != NONE) {
                in.add(f.order);
            }
        }
        List<Integer> list = new ArrayList<>(in);
        return no(lots, lot) || no(list, i) ? NONE : list.get(i);
    }

    int rest(int kind, int colour) {
        if (no(kinds, kind) || out(colour, -1, 4)) {
            return NONE;
        }
        return (int) figures.stream().filter(f -> f.order == NONE && kindOf(f) == kind
                && colour == (f.lot == NONE ? NONE : lots.get(f.lot))).count();
    }

    int money(int family) {
        return no(families, family) ? 0 : families.get(family).money;
    }

    int load(int family, int season) {
        return no(families, family) || out(season, 0, 39) ? NONE : families.get(family).carved.getOrDefault(season, 0);
    }

    int waste(int log) {
        return no(wastes, log) ? NONE : wastes.get(log);
    }

    int count(int what) {
        return pick(what, kinds.size(), families.size(), wastes.size(), rings.size(),
                (int) rings.stream().filter(r -> r.family == NONE).count(), figures.size(),
                (int) figures.stream().filter(f -> f.order != NONE).count(), lots.size(), orders.size(),
                text.rules.size(), now, tape.length());
    }

    private static int pick(int what, int... answers) {
        return what < 0 || what >= answers.length ? NONE : answers[what];
    }

    private static boolean out(int number, int least, int most) {
        return number < least || number > most;
    }

    private static boolean no(List<?> list, int i) {
        return i < 0 || i >= list.size();
    }
}
