/** Promises 6 to 11: the edges of kind, family, own, lend, may and season. */
public final class PatternEdgesTest {
    private static final Check c = new Check("PatternEdgesTest");
    private static final int MIN = Integer.MIN_VALUE;
    private static final int MAX = Integer.MAX_VALUE;

    public static void main(String[] args) {
        kindWidth();
        kindSlices();
        kindWorth();
        eightKinds();
        hands();
        eightFamilies();
        ownNoSuch();
        ownItDoes();
        ownFromNowOn();
        lendNoSuch();
        lendOneAndTheSame();
        lendNotOwned();
        lendUntil();
        lendFromNowUpTo();
        lendHundred();
        mayEdges();
        mayOwnsAsNow();
        lastSeason();
        c.end();
    }

    /** Nothing happens in a busy village by a call that is not allowed. */
    private static Untouched busy() {
        return new Untouched(c, Scenes::busy);
    }

    private static Untouched full() {
        return new Untouched(c, Scenes::full);
    }

    /** Families with one hand and kinds of one unit, slice and worth; nobody owns any. */
    private static Village village(int families, int kinds) {
        Village v = new Village();
        for (int f = 0; f < families; f++) {
            v.family(1, false);
        }
        for (int k = 0; k < kinds; k++) {
            v.kind(1, 1, 1);
        }
        return v;
    }

    private static void kindWidth() {
        c.sentence("Terms I: a WIDTH (1 .. 9 units of a log); Promise 6: NONE, and nothing happens: no such WIDTH");
        for (int width = 1; width <= 9; width++) {
            Village v = new Village();
            c.due("kind(" + width + ", 1, 1)", v.kind(width, 1, 1), 0);
            v.family(1, false);
            v.own(0, 0);
            if (width > 1) {
                v.log(width - 1, 0);
                c.due("count(3): the log is too short", v.count(3), 0);
            }
            v.log(width, 0);
            c.due("count(3): it takes its WIDTH", v.count(3), 1);
            c.due("waste", v.waste(v.count(2) - 1), 0);
            v.log(width + 1, 0);
            c.due("waste of one unit more", v.waste(v.count(2) - 1), width == 1 ? 0 : 1);
        }
        for (int width : new int[] {0, -1, 10, 11, MIN, MAX}) {
            busy().by("kind(" + width + ", 1, 1)", v -> v.kind(width, 1, 1), -1);
        }
    }

    private static void kindSlices() {
        c.sentence("Terms I: SLICES (1 .. 12 figures of a ring); Promise 6: NONE, and nothing happens: no such SLICES");
        for (int slices = 1; slices <= 12; slices++) {
            Village v = new Village();
            c.due("kind(1, " + slices + ", 1)", v.kind(1, slices, 1), 0);
            v.family(1, false);
            v.own(0, 0);
            v.log(1, 0);
            c.due("give()", v.give(), 1);
            c.due("count(5)", v.count(5), slices);
        }
        for (int slices : new int[] {0, -1, 13, 14, MIN, MAX}) {
            busy().by("kind(1, " + slices + ", 1)", v -> v.kind(1, slices, 1), -1);
        }
    }

    private static void kindWorth() {
        c.sentence("Terms I: a WORTH of a figure (0 .. 100); Promise 6: NONE, and nothing happens: no such WORTH");
        for (int worth : new int[] {0, 1, 99, 100}) {
            Village v = new Village();
            c.due("kind(1, 1, " + worth + ")", v.kind(1, 1, worth), 0);
            v.family(1, false);
            v.own(0, 0);
            v.log(1, 0);
            c.due("count(3): without a WORTH the fewest rings are none", v.count(3), worth == 0 ? 0 : 1);
            v.give();
            if (worth > 0) {
                c.due("pay worth", Scenes.paid(v, "pay worth;"), worth);
            }
        }
        for (int worth : new int[] {-1, -100, 101, 102, MIN, MAX}) {
            busy().by("kind(1, 1, " + worth + ")", v -> v.kind(1, 1, worth), -1);
        }
    }

    private static void eightKinds() {
        c.sentence("Terms I: KINDS of figures, 8 at most, numbered from 0 on; Promise 6: NONE, and nothing happens: 8 are there");
        Village v = new Village();
        for (int k = 0; k < 8; k++) {
            c.due("count(0)", v.count(0), k);
            c.due("a wrong one ahead", v.kind(0, 1, 1), -1);
            c.due("kind " + k, v.kind(9, 12, 100), k);
        }
        c.due("count(0)", v.count(0), 8);
        c.due("a ninth", v.kind(1, 1, 1), -1);
        c.due("count(0)", v.count(0), 8);
        c.due("rest(7, -1)", v.rest(7, -1), 0);
        c.due("rest(8, -1)", v.rest(8, -1), -1);
        full().by("a ninth kind", x -> x.kind(1, 12, 100), -1);
    }

    private static void hands() {
        c.sentence("Terms I: HANDS (1 .. 9), WIDOW or not; Promise 7: NONE, and nothing happens: no such HANDS");
        for (int hands = 1; hands <= 9; hands++) {
            for (boolean widow : new boolean[] {false, true}) {
                Village v = new Village();
                c.due("family(" + hands + ", " + widow + ")", v.family(hands, widow), 0);
                v.kind(1, 1, 1);
                v.own(0, 0);
                v.log(1, 0);
                v.give();
                c.due("pay hands * 2 + widow", Scenes.paid(v, "pay hands * 2 + widow;"), hands * 2 + (widow ? 1 : 0));
            }
        }
        for (int hands : new int[] {0, -1, 10, 11, MIN, MAX}) {
            busy().by("family(" + hands + ", false)", v -> v.family(hands, false), -1);
            busy().by("family(" + hands + ", true)", v -> v.family(hands, true), -1);
        }
    }

    private static void eightFamilies() {
        c.sentence("Terms I: FAMILIES, 8 at most; Promise 7: NONE, and nothing happens: 8 are there");
        Village v = new Village();
        for (int f = 0; f < 8; f++) {
            c.due("count(1)", v.count(1), f);
            c.due("a wrong one ahead", v.family(0, true), -1);
            c.due("family " + f, v.family(9, false), f);
        }
        c.due("count(1)", v.count(1), 8);
        c.due("a ninth", v.family(1, true), -1);
        c.due("count(1)", v.count(1), 8);
        c.due("load(7, 0)", v.load(7, 0), 0);
        c.due("load(8, 0)", v.load(8, 0), -1);
        full().by("a ninth family", x -> x.family(9, true), -1);
    }

    private static void ownNoSuch() {
        c.sentence("Promise 8: false: no such ones");
        c.due("own in an empty village", new Village().own(0, 0), false);
        c.due("own without a kind", village(1, 0).own(0, 0), false);
        c.due("own without a family", village(0, 1).own(0, 0), false);
        for (int none : new int[] {-1, 3, 8, 9, MIN, MAX}) {
            busy().by("own(" + none + ", 0)", v -> v.own(none, 0) ? 1 : 0, 0);
            busy().by("own(0, " + none + ")", v -> v.own(0, none) ? 1 : 0, 0);
        }
        for (int none : new int[] {-1, 8}) {
            full().by("own(" + none + ", 7)", v -> v.own(none, 7) ? 1 : 0, 0);
            full().by("own(7, " + none + ")", v -> v.own(7, none) ? 1 : 0, 0);
        }
    }

    private static void ownItDoes() {
        c.sentence("Promise 8: false: it does");
        Village v = village(2, 2);
        c.due("own(1, 1)", v.own(1, 1), true);
        c.due("own(1, 1) again", v.own(1, 1), false);
        v.season();
        c.due("own(1, 1) later", v.own(1, 1), false);
        c.due("another family", v.own(0, 1), true);
        c.due("another kind", v.own(1, 0), true);
        busy().by("own(0, 0), which it does", x -> x.own(0, 0) ? 1 : 0, 0);
        // To have it lent is not to own it.
        v = village(2, 1);
        v.own(0, 0);
        v.lend(0, 1, 0, 40);
        c.due("own of what is lent", v.own(1, 0), true);
        c.due("own again", v.own(1, 0), false);
        c.due("lend of what it owns now", v.lend(1, 0, 0, 1), true);
    }

    private static void ownFromNowOn() {
        c.sentence("Promise 8: A FAMILY OWNS a KIND's pattern from now on: true");
        // Each of the 64 patterns is one of its own.
        for (int family = 0; family < 8; family++) {
            for (int kind = 0; kind < 8; kind++) {
                Village v = village(8, 8);
                c.due("own(" + family + ", " + kind + ")", v.own(family, kind), true);
                for (int f = 0; f < 8; f++) {
                    for (int k = 0; k < 8; k++) {
                        c.due("may(" + f + ", " + k + ", 0)", v.may(f, k, 0), f == family && k == kind ? 1 : 0);
                    }
                }
            }
        }
    }

    /** Families 0 to 2 and kinds 0 to 1; family 0 owns kind 0. */
    private static Village lender() {
        Village v = village(3, 2);
        v.own(0, 0);
        return v;
    }

    /** With room for just one lending more, so that one that is refused shows if it takes that. */
    private static void lentUpToOne(Village v) {
        Scenes.busy(v);
        for (int i = 0; i < 98; i++) {
            v.lend(0, 2, 0, 3);
        }
    }

    private static void refusedLend(String why, int from, int to, int kind, int until) {
        c.due(why, lender().lend(from, to, kind, until), false);
        new Untouched(c, PatternEdgesTest::lentUpToOne).by(why, v -> v.lend(from, to, kind, until) ? 1 : 0, 0);
    }

    private static void lendNoSuch() {
        c.sentence("Promise 9: False, and nothing happens: no such ones");
        c.due("lend in an empty village", new Village().lend(0, 1, 0, 1), false);
        for (int none : new int[] {-1, 3, 8, MIN, MAX}) {
            refusedLend("no such from " + none, none, 1, 0, 5);
            refusedLend("no such to " + none, 0, none, 0, 5);
            refusedLend("no such kind " + none, 0, 1, none, 5);
        }
        refusedLend("none and none", -1, -1, 0, 5);
        c.due("there are two families only", village(2, 1).lend(0, 2, 0, 1), false);
        c.due("the last ones", lender().lend(0, 2, 0, 1), true);
    }

    private static void lendOneAndTheSame() {
        c.sentence("Promise 9: one and the same");
        refusedLend("to itself", 0, 0, 0, 5);
        refusedLend("to itself what it does not own", 1, 1, 0, 5);
        c.due("to another one", lender().lend(0, 1, 0, 5), true);
    }

    private static void lendNotOwned() {
        c.sentence("Promise 9: it does not OWN it");
        refusedLend("nobody owns it", 0, 1, 2, 5);
        refusedLend("another one owns it", 1, 2, 0, 5);
        refusedLend("the one that it is for owns it", 1, 0, 0, 5);
        refusedLend("it is lent to it", 2, 1, 0, 3);
        Village v = lender();
        c.due("lend(0, 1, 0, 5)", v.lend(0, 1, 0, 5), true);
        c.due("what is lent is not owned", v.lend(1, 2, 0, 5), false);
        c.due("may(2, 0, 0)", v.may(2, 0, 0), 0);
        c.due("own(1, 0)", v.own(1, 0), true);
        c.due("what is owned now", v.lend(1, 2, 0, 5), true);
        c.due("to one that owns it", v.lend(0, 1, 0, 5), true);
    }

    private static void lendUntil() {
        c.sentence("Promise 9: the SEASON is not above now or above 40");
        for (int now : new int[] {0, 1, 20, 38, 39}) {
            for (int until : new int[] {MIN, -1, 0, now - 1, now, now + 1, 39, 40, 41, 42, 64, 65, MAX}) {
                Village v = lender();
                for (int s = 0; s < now; s++) {
                    v.season();
                }
                boolean may = until > now && until <= 40;
                c.due("lend until " + until + " in " + now, v.lend(0, 1, 0, until), may);
                for (int s = 0; s < 40; s++) {
                    c.due("may(1, 0, " + s + ")", v.may(1, 0, s), may && s >= now && s < until ? 1 : 0);
                }
            }
        }
        for (int until : new int[] {MIN, -1, 0, 1, 41, 42, MAX}) {
            new Untouched(c, PatternEdgesTest::lentUpToOne)
                    .by("lend until " + until + " in 1", v -> v.lend(0, 1, 0, until) ? 1 : 0, 0);
        }
    }

    private static void lendFromNowUpTo() {
        c.sentence("Terms I: by one that OWNS it, from the SEASON in which it is lent up to (not with) a told one.");
        // The one with more hands gets each ring that it may carve.
        Village v = new Village();
        v.kind(1, 1, 1);
        v.family(1, false);
        v.family(2, false);
        v.own(0, 0);
        Check.read(v, "give hands;");
        int[] takers = {0, 0, 1, 1, 0, 0};
        for (int s = 0; s < takers.length; s++) {
            if (s == 2) {
                c.due("lend(0, 1, 0, 4) in 2", v.lend(0, 1, 0, 4), true);
            }
            v.log(1, 0);
            c.due("give()", v.give(), 1);
            c.due("ring(" + s + ", 3)", v.ring(s, 3), takers[s]);
            v.season();
        }
        // Two with a gap between; a shorter one takes nothing from a longer.
        v = lender();
        c.due("until 1", v.lend(0, 1, 0, 1), true);
        v.season();
        v.season();
        c.due("until 9", v.lend(0, 1, 0, 9), true);
        c.due("until 5", v.lend(0, 1, 0, 5), true);
        c.due("until 3, to another", v.lend(0, 2, 0, 3), true);
        for (int s = 0; s < 40; s++) {
            c.due("may(1, 0, " + s + ")", v.may(1, 0, s), s == 0 || s >= 2 && s < 9 ? 1 : 0);
            c.due("may(2, 0, " + s + ")", v.may(2, 0, s), s == 2 ? 1 : 0);
            c.due("may(1, 1, " + s + ")", v.may(1, 1, s), 0);
        }
    }

    private static void lendHundred() {
        c.sentence("Promise 9: or 100 are lent.");
        Village v = lender();
        int[][] wrong = {{0, 0, 0, 5}, {1, 2, 0, 5}, {0, 1, 1, 5}, {0, 1, 0, 0}, {0, 1, 0, 41}, {0, 3, 0, 5}, {3, 0, 0, 5}, {0, 1, 2, 5}};
        for (int i = 0; i < 100; i++) {
            int[] w = wrong[i % wrong.length];
            c.due("a wrong one ahead of lend " + i, v.lend(w[0], w[1], w[2], w[3]), false);
            c.due("lend " + i, v.lend(0, 1, 0, i < 99 ? 2 : 7), true);
        }
        c.due("may(1, 0, 6) by the 100th", v.may(1, 0, 6), 1);
        c.due("a 101st", v.lend(0, 2, 0, 5), false);
        c.due("may(2, 0, 0)", v.may(2, 0, 0), 0);
        c.due("a longer one as the 101st", v.lend(0, 1, 0, 40), false);
        c.due("may(1, 0, 7)", v.may(1, 0, 7), 0);
        c.due("own(2, 0) all the same", v.own(2, 0), true);
        new Untouched(c, x -> {
            lentUpToOne(x);
            x.lend(0, 2, 0, 3);
        }).by("a 101st", x -> x.lend(0, 1, 0, 9) ? 1 : 0, 0);
        full().by("a 101st", x -> x.lend(7, 0, 7, 40) ? 1 : 0, 0);
        lendingsThatRanOut();
    }

    // A reading: what ran out counts among the 100, for may() still tells of its seasons.
    private static void lendingsThatRanOut() {
        Village v = lender();
        for (int i = 0; i < 100; i++) {
            v.lend(0, 1, 0, 1);
        }
        v.season();
        c.due("a 101st when 100 have run out", v.lend(0, 1, 0, 5), false);
        c.due("may(1, 0, 0) of what has run out", v.may(1, 0, 0), 1);
        c.due("may(1, 0, 1)", v.may(1, 0, 1), 0);
    }

    private static void mayEdges() {
        c.sentence("Promise 10: 1 if a FAMILY MAY CARVE a KIND in a SEASON (0 .. 39 ..), else 0; NONE: no such ones.");
        c.due("may in an empty village", new Village().may(0, 0, 0), -1);
        c.due("may without a kind", village(1, 0).may(0, 0, 0), -1);
        c.due("may without a family", village(0, 1).may(0, 0, 0), -1);
        for (int none : new int[] {-1, 3, 8, MIN, MAX}) {
            busy().by("may(" + none + ", 0, 0)", v -> v.may(none, 0, 0), -1);
            busy().by("may(0, " + none + ", 0)", v -> v.may(0, none, 0), -1);
        }
        for (int season : new int[] {-1, 40, 41, 63, 64, MIN, MAX}) {
            busy().by("may(0, 0, " + season + ")", v -> v.may(0, 0, season), -1);
            busy().by("may(1, 0, " + season + ")", v -> v.may(1, 0, season), -1);
        }
        Village v = village(8, 8);
        v.own(7, 7);
        c.due("may(7, 7, 0)", v.may(7, 7, 0), 1);
        c.due("may(7, 7, 39)", v.may(7, 7, 39), 1);
        c.due("may(7, 6, 39)", v.may(7, 6, 39), 0);
        c.due("may(6, 7, 0)", v.may(6, 7, 0), 0);
        c.due("may(8, 7, 0)", v.may(8, 7, 0), -1);
        c.due("may(7, 8, 0)", v.may(7, 8, 0), -1);
    }

    private static void mayOwnsAsNow() {
        c.sentence("Promise 10: OWNS: as now");
        Village v = village(2, 1);
        v.season();
        v.season();
        c.due("may(0, 0, 0) ahead of it", v.may(0, 0, 0), 0);
        v.own(0, 0);
        for (int s = 0; s < 40; s++) {
            c.due("may(0, 0, " + s + ")", v.may(0, 0, s), 1);
            c.due("may(1, 0, " + s + ")", v.may(1, 0, s), 0);
        }
    }

    private static void lastSeason() {
        c.sentence("Terms I: SEASONS go from 0 to 39; Promise 11: NONE, and nothing happens: 39 is now.");
        Village v = new Village();
        c.due("count(10)", v.count(10), 0);
        for (int s = 1; s <= 39; s++) {
            c.due("season()", v.season(), s);
            c.due("count(10)", v.count(10), s);
        }
        for (int i = 0; i < 3; i++) {
            c.due("season() behind 39", v.season(), -1);
            c.due("count(10)", v.count(10), 39);
        }
        full().by("season() behind 39", x -> x.season(), -1);
    }
}
