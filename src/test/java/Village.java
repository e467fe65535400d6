/** A ToyVillage whose calls are counted: the document promises nothing of a 513th. */
final class Village {
    static final int CALLS = 512;

    private final ToyVillage toys = new ToyVillage();
    private int left = CALLS;

    /** How many calls more may be made. */
    int left() {
        return left;
    }

    private ToyVillage call() {
        if (left == 0) {
            throw new IllegalStateException("a test makes a 513th call on one object");
        }
        left--;
        return toys;
    }

    int feed(int a, int b, int c, int d, int e) {
        return call().feed(a, b, c, d, e);
    }

    int back(int n) {
        return call().back(n);
    }

    int read() {
        return call().read();
    }

    int place() {
        return call().place();
    }

    int kind(int width, int slices, int worth) {
        return call().kind(width, slices, worth);
    }

    int family(int hands, boolean widow) {
        return call().family(hands, widow);
    }

    boolean own(int family, int kind) {
        return call().own(family, kind);
    }

    boolean lend(int from, int to, int kind, int until) {
        return call().lend(from, to, kind, until);
    }

    int may(int family, int kind, int season) {
        return call().may(family, kind, season);
    }

    int season() {
        return call().season();
    }

    int log(int length, long flaws) {
        return call().log(length, flaws);
    }

    int give() {
        return call().give();
    }

    int lot(int colour) {
        return call().lot(colour);
    }

    int paint(int lot, int a, int b) {
        return call().paint(lot, a, b);
    }

    int order(int worth) {
        return call().order(worth);
    }

    int need(int order, int many, int kind, int colour) {
        return call().need(order, many, kind, colour);
    }

    int box() {
        return call().box();
    }

    int refuse(int order) {
        return call().refuse(order);
    }

    int ring(int r, int what) {
        return call().ring(r, what);
    }

    int figure(int f, int what) {
        return call().figure(f, what);
    }

    int packed(int order, int i) {
        return call().packed(order, i);
    }

    int told(int order, int what) {
        return call().told(order, what);
    }

    int found(int lot, int i) {
        return call().found(lot, i);
    }

    int rest(int kind, int colour) {
        return call().rest(kind, colour);
    }

    int money(int family) {
        return call().money(family);
    }

    int load(int family, int season) {
        return call().load(family, season);
    }

    int waste(int log) {
        return call().waste(log);
    }

    int count(int what) {
        return call().count(what);
    }
}
