/** Promises 4, 13 and 18: the edges of what RULES are worth, as the document's part II and III name them. */
public final class RuleEdgesTest {
    private static final Check c = new Check("RuleEdgesTest");
    private static final int MIN = Integer.MIN_VALUE;
    private static final int MAX = Integer.MAX_VALUE;
    /** 2 to the 31st, which wraps to the least int. */
    private static final String LEAST = "4096*4096*128";
    private static final String GREATEST = "(4096*4096*128-1)";

    public static void main(String[] args) {
        sumsWrap();
        productsWrap();
        comparingWrapped();
        partsAndUnits();
        allAndOr();
        ofAFamily();
        loadOfThisSeason();
        money();
        ofAKind();
        seasonThatIsNow();
        firstRuleThatHolds();
        twentiethRule();
        zeroWithout();
        greatestClaim();
        wrappedClaims();
        lesserNumber();
        noBarHolds();
        payAtOnce();
        moneyWraps();
        c.end();
    }

    private static void value(String e, int want) {
        c.due(e, Scenes.valueOf(e), want);
    }

    private static void holds(String condition, boolean want) {
        c.due(condition, Scenes.holds(condition), want);
    }

    private static void sumsWrap() {
        c.sentence("Terms II: Ints of 32 bits that wrap. (+ and -)");
        value(LEAST, MIN);
        value(GREATEST, MAX);
        value(GREATEST + "+1", MIN);
        value(GREATEST + "+" + GREATEST, -2);
        value(LEAST + "-1", MAX);
        value(LEAST + "+" + LEAST, 0);
        value(LEAST + "-" + LEAST, 0);
        value("0-" + LEAST, MIN);
        value("0-" + GREATEST, -MAX);
        value("0-" + GREATEST + "-1", MIN);
        value("0-" + GREATEST + "-2", MAX);
        value("0-1-" + LEAST, MAX);
        value(LEAST + "-9999", MIN - 9999);
    }

    private static void productsWrap() {
        c.sentence("Terms II: Ints of 32 bits that wrap. (*)");
        value("9999*9999", 99980001);
        value("9999*9999*9999", 9999 * 9999 * 9999);
        value("9999*9999*9999*9999", 9999 * 9999 * 9999 * 9999);
        value("4096*4096*256", 0);
        value("4096*4096*256+5", 5);
        value(GREATEST + "*2", -2);
        value(GREATEST + "*" + GREATEST, 1);
        value(LEAST + "*2", 0);
        value(LEAST + "*3", MIN);
        value(LEAST + "*(0-1)", MIN);
        value("(0-1)*" + LEAST, MIN);
        value("(0-1)*" + GREATEST, -MAX);
        value("0*" + LEAST, 0);
    }

    private static void comparingWrapped() {
        c.sentence("Terms II: REL: E ('==' | '!=' | '<' | '<=') E.");
        String[] rising = {LEAST, LEAST + "+1", "0-1", "0", "1", GREATEST + "-1", GREATEST};
        for (int i = 0; i < rising.length; i++) {
            for (int j = 0; j < rising.length; j++) {
                holds(rising[i] + " == " + rising[j], i == j);
                holds(rising[i] + " != " + rising[j], i != j);
                holds(rising[i] + " < " + rising[j], i < j);
                holds(rising[i] + " <= " + rising[j], i <= j);
            }
        }
    }

    private static void partsAndUnits() {
        c.sentence("Terms II: E: PART {('+' | '-') PART}. PART: UNIT {'*' UNIT}.");
        value("0", 0);
        value("1-2-3", -4);
        value("1-2+3", 2);
        value("1+2-3*4", -9);
        value("2*3-4*5-6", -20);
        value("2*3*4-5*6*7", -186);
        value("7-2*(3-5)", 11);
        value("(7-2)*(3-5)", -10);
        value("(1-2)*(3-4)*(5-6)", -1);
        value("9-(8-(7-(6-(5-(4-3)))))", 9 - (8 - (7 - (6 - (5 - (4 - 3))))));
        value("0-(0-(0-5))", -5);
        value("1" + "-1".repeat(198), 1 - 198);
        value("1" + "*3".repeat(198), power(3, 198));
        value("(hands+worth)*(hands-worth)", -45);
    }

    private static int power(int base, int times) {
        int all = 1;
        for (int i = 0; i < times; i++) {
            all *= base;
        }
        return all;
    }

    private static void allAndOr() {
        c.sentence("Terms II: COND: ALL {'or' ALL}. ALL: REL {'and' REL}.");
        String[] rel = {"1==2", "1==1"};
        for (int bits = 0; bits < 16; bits++) {
            boolean p = (bits & 1) != 0;
            boolean q = (bits & 2) != 0;
            boolean r = (bits & 4) != 0;
            boolean s = (bits & 8) != 0;
            String[] w = {rel[bits & 1], rel[bits >> 1 & 1], rel[bits >> 2 & 1], rel[bits >> 3]};
            holds(w[0] + " and " + w[1] + " or " + w[2] + " and " + w[3], p && q || r && s);
            holds(w[0] + " or " + w[1] + " and " + w[2] + " or " + w[3], p || q && r || s);
            holds(w[0] + " or " + w[1] + " or " + w[2] + " and " + w[3], p || q || r && s);
            holds(w[0] + " and " + w[1] + " and " + w[2] + " or " + w[3], p && q && r || s);
            holds(w[0] + " and " + w[1] + " and " + w[2] + " and " + w[3], p && q && r && s);
            holds(w[0] + " or " + w[1] + " or " + w[2] + " or " + w[3], p || q || r || s);
        }
        // With 98 relations the rule has 395 tokens.
        holds("1==2 or ".repeat(97) + "1==1", true);
        holds("1==2 or ".repeat(97) + "1==2", false);
        holds("1==1 and ".repeat(97) + "1==1", true);
        holds("1==1 and ".repeat(97) + "1==2", false);
    }

    private static Village ofOneFamily(int hands, boolean widow) {
        Village v = new Village();
        v.kind(1, 1, 7);
        v.family(hands, widow);
        v.own(0, 0);
        v.log(3, 0);
        v.give();
        return v;
    }

    private static void ofAFamily() {
        c.sentence("Terms II: VARS: of a FAMILY HANDS, WIDOW (1, 0)");
        for (int hands : new int[] {1, 2, 8, 9}) {
            c.due("hands of " + hands, Scenes.paid(ofOneFamily(hands, hands == 9), "pay hands;"), hands);
            c.due("widow of " + hands, Scenes.paid(ofOneFamily(hands, hands == 9), "pay widow;"), hands == 9 ? 1 : 0);
        }
        c.due("a widow with one hand", Scenes.paid(ofOneFamily(1, true), "pay widow*10+hands;"), 11);
    }

    private static void loadOfThisSeason() {
        c.sentence("Terms II: load: figures that it carved in this SEASON");
        Village v = Scenes.workshop(12);
        v.log(1, 0);
        v.give();
        c.due("load of 12", Scenes.paid(v, "pay load;"), 12);
        v.season();
        c.due("load in the next SEASON", Scenes.paid(v, "pay load;"), 0);
        v.log(2, 0);
        v.give();
        c.due("load of 24", Scenes.paid(v, "pay load;"), 24);
        for (int s = 2; s <= 39; s++) {
            v.season();
        }
        v.log(1, 0);
        v.give();
        c.due("load in the last SEASON", Scenes.paid(v, "pay load;"), 12);
        c.due("load of 400", Scenes.paid(Scenes.allFigures(), "pay load;"), 400);
        // While rings are given the load grows ring by ring.
        v = Scenes.workshop(3);
        Check.read(v, "bar 3 <= load;");
        v.log(4, 0);
        c.due("give() up to a load of 3", v.give(), 1);
        Check.read(v, "bar 9 <= load;");
        c.due("give() up to a load of 9", v.give(), 2);
        c.due("give() with a load of 9", v.give(), 0);
        v.season();
        c.due("give() in the next SEASON", v.give(), 1);
    }

    private static void money() {
        c.sentence("Terms II: VARS: of a FAMILY .. MONEY");
        Village v = Scenes.figures(6);
        c.due("money at first", Scenes.paid(v, "pay money;"), 0);
        c.due("pay below 0", Scenes.paid(v, "pay 0-5;"), -5);
        c.due("money below 0", Scenes.paid(v, "pay money*2;"), -10);
        c.due("money(0)", v.money(0), -15);
        c.due("refuse", v.refuse(2), 1);
        c.due("money less what was lost", Scenes.paid(v, "pay money;"), -5);
        // A claim by money: the family that has more.
        v = new Village();
        v.kind(1, 1, 1);
        v.family(1, false);
        v.family(1, true);
        v.own(0, 0);
        v.own(1, 0);
        v.log(3, 0);
        Check.read(v, "give widow;");
        v.give();
        c.due("a pay", Scenes.paid(v, "pay 1; give money;"), 1);
        v.log(1, 0);
        v.give();
        c.due("to the one with MONEY", v.ring(3, 3), 1);
        c.due("a loss", Scenes.paid(v, "pay 0-2; give money;"), -2);
        v.log(1, 0);
        v.give();
        c.due("to the one that lost none", v.ring(4, 3), 0);
    }

    private static void ofAKind() {
        c.sentence("Terms II: of a KIND its number, WORTH, SLICES");
        for (int number : new int[] {0, 7}) {
            for (int worth : new int[] {1, 100}) {
                for (int slices : new int[] {1, 12}) {
                    Village v = new Village();
                    for (int k = 0; k < number; k++) {
                        v.kind(9, 2, 50);
                    }
                    v.kind(1, slices, worth);
                    v.family(3, false);
                    v.own(0, number);
                    v.log(1, 0);
                    v.give();
                    Check.read(v, "pay kind*1000+worth*9+slices*2000*5;");
                    v.order(0);
                    v.need(0, 1, number, -1);
                    v.box();
                    c.due("kind, worth, slices", v.figure(0, 6), number * 1000 + worth * 9 + slices * 10000);
                }
            }
        }
    }

    private static void seasonThatIsNow() {
        c.sentence("Terms II: the SEASON that is now");
        Village v = Scenes.figures(8);
        c.due("season 0", Scenes.paid(v, "pay season;"), 0);
        v.season();
        c.due("season 1, not that of the carving", Scenes.paid(v, "pay season;"), 1);
        for (int s = 2; s <= 39; s++) {
            v.season();
        }
        c.due("season 39", Scenes.paid(v, "pay season;"), 39);
        v.season();
        c.due("season 39 still", Scenes.paid(v, "pay season;"), 39);
        Village w = Scenes.workshop(1);
        Check.read(w, "bar season != 2;");
        w.log(1, 0);
        c.due("give() in 0", w.give(), 0);
        w.season();
        c.due("give() in 1", w.give(), 0);
        w.season();
        c.due("give() in 2", w.give(), 1);
    }

    private static void firstRuleThatHolds() {
        c.sentence("Terms III: the E of the first pay RULE that holds (or has no COND)");
        String[] texts = {"pay 1; pay 2;", "pay 1 if 1==2; pay 2;", "pay 1 if 1==2; pay 2 if 1==1; pay 3;", "pay 1 if 1==1; pay 2;",
            "give 9; bar 1==1; pay 5;", "pay 1 if 1==2; give 9; pay 4 if 1==2; bar 1==1; pay 6 if 1==1;", "pay 0 if 1==1; pay 8;"};
        int[] values = {1, 2, 2, 1, 5, 6, 0};
        for (int i = 0; i < texts.length; i++) {
            c.due(texts[i], Scenes.paid(Scenes.figures(1), texts[i]), values[i]);
        }
        c.sentence("Terms II: CLAIM (the E of the first give RULE that holds, or has no COND");
        // Family 0 has 9 hands, family 1 has 1.
        given("give hands; give 0-hands;", 0);
        given("give hands if 1==2; give 0-hands;", 1);
        given("give 0-hands if 1==1; give hands;", 1);
        given("pay 0-hands; bar 1==2; give 0-hands;", 1);
        given("give 5 if hands==9; give 6;", 1);
        given("give 5 if hands==1; give 6 if hands==9; give 7;", 0);
        given("give 5 if hands==1; give 9 if hands==1; give 6 if hands==9;", 0);
    }

    /** The text, without a fault, gives a ring to the family: 0 with 9 hands or 1 with 1; NONE: it waits. */
    private static void given(String text, int family) {
        Village v = new Village();
        v.kind(1, 1, 1);
        v.family(9, false);
        v.family(1, true);
        v.own(0, 0);
        v.own(1, 0);
        v.log(1, 0);
        c.due("read() of " + text, Check.read(v, text), 0);
        c.due("give() by " + text, v.give(), family == -1 ? 0 : 1);
        c.due("ring(0, 3) by " + text, v.ring(0, 3), family);
    }

    private static void twentiethRule() {
        c.sentence("Terms II: RULES are numbered from 0 on. (the 20th counts as the first does)");
        String nineteen = "pay 1 if 1==2;".repeat(19);
        c.due("pay of the 20th", Scenes.paid(Scenes.figures(1), nineteen + "pay 77;"), 77);
        given(nineteen + "give 0-hands;", 1);
        given(nineteen + "bar hands==9;", 1);
        given("bar hands==9;" + nineteen, 1);
        given("give 0-hands;" + nineteen, 1);
    }

    private static void zeroWithout() {
        c.sentence("Terms III: 0 without (a pay RULE that holds)");
        for (String text : new String[] {"", "give 5;", "bar 1==1;", "pay 5 if 1==2;", "pay 5 if hands==9; pay 6 if hands==1; give 7;"}) {
            Village v = Scenes.figures(1);
            c.due("pay by " + text, Scenes.paid(v, text), 0);
            c.due("money(0) by " + text, v.money(0), 0);
        }
        c.sentence("Terms II: 0 without (a give RULE that holds)");
        given("", 0);
        given("pay hands;", 0);
        given("give 1 if hands==1;", 1);
        given("give 0 if hands==1;", 0);
        given("give 0-1 if hands==1;", 0);
        given("give 0-1 if hands==9;", 1);
        given("give 0 if hands==9;", 0);
        given("give 1 if hands==9;", 0);
    }

    private static void greatestClaim() {
        c.sentence("Terms II: that has the greatest CLAIM");
        given("give hands;", 0);
        given("give 0-hands;", 1);
        given("give 2*widow;", 1);
        given("give 8 if hands==9; give 9;", 1);
        given("give 0-8 if hands==9; give 0-9;", 0);
        given("give 0-9 if hands==9; give 0-8;", 1);
    }

    private static void wrappedClaims() {
        c.sentence("Terms II: that has the greatest CLAIM (of ints that wrap)");
        given("give " + LEAST + " if hands==9; give " + GREATEST + ";", 1);
        given("give " + GREATEST + " if hands==9; give " + LEAST + ";", 0);
        given("give " + LEAST + " if hands==9; give " + LEAST + "+1;", 1);
        given("give " + GREATEST + "+widow;", 0);
        given("give " + LEAST + "-widow;", 1);
        given("give " + LEAST + ";", 0);
        given("give " + LEAST + "; bar hands==9;", 1);
        given("give " + LEAST + " if hands==9; give 0-1;", 1);
        given("give 1 if hands==9; give " + LEAST + ";", 0);
    }

    private static void lesserNumber() {
        c.sentence("Terms II: of the same the lesser number");
        given("give 5;", 0);
        given("give 0-5;", 0);
        given("give " + GREATEST + ";", 0);
        Village v = new Village();
        v.kind(1, 1, 1);
        for (int f = 0; f < 8; f++) {
            v.family(1 + f % 3, false);
            v.own(f, 0);
        }
        Check.read(v, "give hands; bar 1 <= load;");
        v.log(9, 0);
        c.due("give()", v.give(), 8);
        int[] takers = {2, 5, 1, 4, 7, 0, 3, 6, -1};
        for (int r = 0; r < takers.length; r++) {
            c.due("ring(" + r + ", 3)", v.ring(r, 3), takers[r]);
        }
    }

    private static void noBarHolds() {
        c.sentence("Terms II: of which no bar RULE holds");
        given("bar hands==9;", 1);
        given("bar hands==1;", 0);
        given("bar 1==1;", -1);
        given("bar 1==2;", 0);
        given("bar hands==9; bar widow==1;", -1);
        given("bar 1==2; bar widow==0; bar 1==2;", 1);
        given("give hands; bar hands==9; bar 1==2;", 1);
        given("give hands; bar 1==2; bar hands==9;", 1);
        given("give 0-hands; bar hands==1;", 0);
        given("pay 1 if 1==1; give 1 if 1==1;", 0);
    }

    private static void payAtOnce() {
        c.sentence("Terms III: for each FIGURE that comes into a box, by numbers, its FAMILY gets, at once");
        Village v = Scenes.figures(20);
        Check.read(v, "pay money+1;");
        v.lot(1);
        v.paint(0, 10, 19);
        v.order(1);
        v.need(0, 10, 0, 1);
        v.order(1);
        v.need(1, 10, 0, -1);
        v.box();
        for (int f = 0; f < 20; f++) {
            c.due("figure(" + f + ", 6)", v.figure(f, 6), 1 << f);
        }
        c.due("money(0)", v.money(0), (1 << 20) - 1);
        // Two families by turns: each has its own.
        v = new Village();
        v.kind(1, 1, 1);
        v.family(1, false);
        v.family(1, true);
        v.own(0, 0);
        v.own(1, 0);
        Check.read(v, "give 0-load;");
        v.log(4, 0);
        v.give();
        Check.read(v, "pay money*3+1+widow;");
        v.order(1);
        v.need(0, 4, 0, -1);
        v.box();
        int[] pays = {1, 2, 4, 8};
        for (int f = 0; f < 4; f++) {
            c.due("figure(" + f + ", 6)", v.figure(f, 6), pays[f]);
        }
    }

    private static void moneyWraps() {
        c.sentence("Terms III: MONEY, ints that wrap, 0 at first.");
        Village v = Scenes.figures(8);
        c.due("money(0) at first", v.money(0), 0);
        c.due("the greatest", Scenes.paid(v, "pay " + GREATEST + ";"), MAX);
        c.due("money(0)", v.money(0), MAX);
        c.due("one more", Scenes.paid(v, "pay 1;"), 1);
        c.due("money(0) wraps", v.money(0), MIN);
        c.due("one less", Scenes.paid(v, "pay 0-1;"), -1);
        c.due("money(0) wraps back", v.money(0), MAX);
        c.due("refuse(1)", v.refuse(1), 1);
        c.due("money(0) without the one more", v.money(0), MAX - 1);
        c.due("refuse(2)", v.refuse(2), 1);
        c.due("money(0) without the one less", v.money(0), MAX);
        c.due("refuse(0)", v.refuse(0), 1);
        c.due("money(0)", v.money(0), 0);
        c.due("the least", Scenes.paid(v, "pay " + LEAST + ";"), MIN);
        c.due("money(0)", v.money(0), MIN);
        c.due("refuse(3): the least is lost", v.refuse(3), 1);
        c.due("money(0) wraps", v.money(0), 0);
    }
}
