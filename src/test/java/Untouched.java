import java.util.ArrayList;
import java.util.List;
import java.util.function.Consumer;
import java.util.function.ToIntFunction;

/**
 * Shows of a call that nothing happened by it: in the same scene with it and without it, every look
 * and all that later calls answer are the same.
 */
final class Untouched {
    private final Check c;
    private final Consumer<Village> scene;
    private final List<String> looks;
    private final List<String> later;

    Untouched(Check c, Consumer<Village> scene) {
        this.c = c;
        this.scene = scene;
        looks = new Looks(scene).all();
        later = later(scene);
    }

    /** The call answers as is due, and nothing happens. */
    void by(String call, ToIntFunction<Village> refused, int want) {
        Village v = new Village();
        scene.accept(v);
        c.due(call, refused.applyAsInt(v), want);
        Consumer<Village> with = scene.andThen(refused::applyAsInt);
        same(call, new Looks(with).all(), looks);
        same(call, later(with), later);
    }

    private void same(String call, List<String> with, List<String> without) {
        String first = "";
        for (int i = 0; i < with.size() && i < without.size() && first.isEmpty(); i++) {
            if (!with.get(i).equals(without.get(i))) {
                first = ", which made " + without.get(i) + " to " + with.get(i);
            }
        }
        c.due("nothing happens by " + call + first, with.equals(without), true);
    }

    private static List<String> later(Consumer<Village> scene) {
        List<String> answers = new ArrayList<>();
        Village v = new Village();
        scene.accept(v);
        goOn(v, answers);
        answers.addAll(new Looks(scene.andThen(x -> goOn(x, new ArrayList<>()))).all());
        return answers;
    }

    /** Calls whose answers depend on what no look tells: the rules, the tape, what is full. */
    private static void goOn(Village v, List<String> answers) {
        makeAndBox(v, answers);
        add(answers, "kind", v.kind(2, 2, 2));
        add(answers, "family", v.family(3, true));
        add(answers, "own", v.own(1, 2) ? 1 : 0);
        add(answers, "lend", v.lend(0, 1, 0, 40) ? 1 : 0);
        add(answers, "lend", v.lend(0, 2, 0, 39) ? 1 : 0);
        add(answers, "lot", v.lot(3));
        add(answers, "order", v.order(0));
        add(answers, "order", v.order(9));
        add(answers, "season", v.season());
        makeAndBox(v, answers);
        add(answers, "read", v.read());
        add(answers, "place", v.place());
        makeAndBox(v, answers);
        Check.type(v, "give 3; pay 4 * slices;");
        add(answers, "back", v.back(1));
        Check.type(v, ";");
        add(answers, "read", v.read());
        makeAndBox(v, answers);
        for (int order = 0; order < 8; order++) {
            add(answers, "refuse " + order, v.refuse(order));
        }
    }

    private static void makeAndBox(Village v, List<String> answers) {
        add(answers, "log", v.log(11, 0b100000));
        add(answers, "give", v.give());
        add(answers, "paint", v.paint(0, 1, 2));
        add(answers, "paint", v.paint(1, 0, 5));
        for (int order = 0; order < 8; order++) {
            add(answers, "need of " + order, v.need(order, 1, 0, order - 4 < -1 ? -1 : order - 4));
        }
        add(answers, "box", v.box());
    }

    private static void add(List<String> answers, String call, int answer) {
        answers.add("later " + call + " = " + answer);
    }

    /** All that the looks tell of a scene, on as many objects as their 512 calls make needful. */
    private static final class Looks {
        private final Consumer<Village> scene;
        private final List<String> answers = new ArrayList<>();
        private Village v = null;

        Looks(Consumer<Village> scene) {
            this.scene = scene;
        }

        private Village village() {
            if (v == null || v.left() == 0) {
                v = new Village();
                scene.accept(v);
            }
            return v;
        }

        private void add(String look, int answer) {
            answers.add(look + " = " + answer);
        }

        List<String> all() {
            int[] counts = new int[12];
            for (int what = 0; what < counts.length; what++) {
                counts[what] = village().count(what);
                add("count(" + what + ")", counts[what]);
            }
            add("place()", village().place());
            rows("ring", counts[3], 5, (r, what) -> village().ring(r, what));
            rows("figure", counts[5], 8, (f, what) -> village().figure(f, what));
            rows("told", counts[8], 5, (o, what) -> village().told(o, what));
            rows("packed", counts[8], 4, (o, i) -> village().packed(o, i));
            rows("found", counts[7], 2, (lot, i) -> village().found(lot, i));
            rows("rest", counts[0], 6, (k, colour) -> village().rest(k, colour - 1));
            rows("money", counts[1], 1, (f, none) -> village().money(f));
            rows("load", counts[1], 40, (f, s) -> village().load(f, s));
            rows("waste", counts[2], 1, (log, none) -> village().waste(log));
            for (int family = 0; family < counts[1]; family++) {
                int of = family;
                rows("may of " + of, counts[0], 40, (k, s) -> village().may(of, k, s));
            }
            return answers;
        }

        private interface Look {
            int at(int i, int what);
        }

        private void rows(String name, int many, int whats, Look look) {
            for (int i = 0; i < many; i++) {
                for (int what = 0; what < whats; what++) {
                    add(name + "(" + i + ", " + what + ")", look.at(i, what));
                }
            }
        }
    }
}
