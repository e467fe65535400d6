/** Promises 4 and 5: read and place; the tokens, the grammar and the faults of a text. */
public final class TextTest {
    private static final Check c = new Check("TextTest");

    public static void main(String[] args) {
        tokens();
        grammar();
        ends();
        manyTokens();
        manyRules();
        manyBrackets();
        whichFault();
        faultsChangeNothing();
        c.end();
    }

    private static void reads(String text, int fault, int place) {
        Village v = new Village();
        c.due("place() ahead of any read()", v.place(), -1);
        c.due("read() of [" + text + "]", Check.read(v, text), fault);
        c.due("place() of [" + text + "]", v.place(), place);
        c.due("count(11) behind [" + text + "]", v.count(11), 0);
    }

    private static void good(String text) {
        reads(text, 0, -1);
    }

    private static void syntax(String text, int place) {
        reads(text, 1, place);
    }

    private static void room(String text, int place) {
        reads(text, 2, place);
    }

    private static void tokens() {
        good("\t\n\r ");
        good("give1if2<3;");
        good("\tgive\n0000\rif hands<=widow ;pay 9999;");
        good("bar 1==2;");
        good("bar 1!=2;");
        good("bar 1<2;");
        syntax("give 10000;", 5);
        syntax("give 00001;", 5);
        syntax("give 1+12345 ;", 7);
        syntax("givegiveg 1;", 0);
        syntax("give handshands;", 5);
        syntax("give hand;", 5);
        syntax("give handss;", 5);
        for (String word : new String[] {"give", "bar", "pay"}) {
            syntax("x" + word.substring(1) + " 1 == 1;", 0);
            syntax(word + "z 1 == 1;", 0);
            syntax("a" + word + " 1 == 1;", 0);
            syntax(word.substring(1) + " 1 == 1;", 0);
        }
        for (String word : new String[] {"hands", "widow", "load", "money", "kind", "worth", "slices", "season"}) {
            good("give " + word + ";");
            syntax("give x" + word.substring(1) + ";", 5);
            syntax("give " + word + "z;", 5);
            syntax("give " + word.substring(0, word.length() - 1) + ";", 5);
        }
        for (String word : new String[] {"if", "and", "or"}) {
            syntax("give 1 if 1 == 1 x" + word.substring(1) + " 1 == 1;", 17);
            syntax("give 1 x" + word.substring(1) + " 1 == 1;", 7);
        }
        syntax("Give 1;", 0);
        syntax("give HANDS;", 5);
        syntax("give 1\u000b;", 6);
        syntax("give 1\u0000;", 6);
        syntax("give 1\u00a0;", 6);
        syntax("give \u00ff;", 5);
        syntax("give 1_;", 6);
        syntax("bar 1=2;", 5);
        syntax("bar 1= =2;", 5);
        syntax("bar 1!2;", 5);
        syntax("bar 1! =2;", 5);
        syntax("bar 1===2;", 7);
        syntax("bar 1<==2;", 7);
        syntax("bar 1< =2;", 7);
        syntax("bar 1>2;", 5);
        syntax("bar 1<<2;", 6);
        syntax("bar 1=", 5);
        syntax("give 1 2;", 7);
        syntax("give 1234 5;", 10);
        syntax("give 1.5;", 6);
    }

    private static void grammar() {
        good("give hands + widow - load * money;");
        good("pay kind * worth - slices + season if season == 1 or load != 2 and money < 3;");
        good("give (1); give ((((((1)))))); give (1)*(2)-(3) if (1)<(2);");
        good("bar (1 + 2) * 3 <= 4 and 1 < 2 or 3 < 4;");
        syntax("1;", 0);
        syntax(";", 0);
        syntax("if 1 == 1;", 0);
        syntax("hands;", 0);
        syntax("give;", 4);
        syntax("give if 1 == 1;", 5);
        syntax("give -1;", 5);
        syntax("give +1;", 5);
        syntax("give 1 + ;", 9);
        syntax("give 1 * * 2;", 9);
        syntax("give );", 5);
        syntax("give ();", 6);
        syntax("give (1;", 7);
        syntax("give (1));", 8);
        syntax("give (1 if 1 == 1;", 8);
        syntax("give (1 == 1);", 8);
        syntax("give 1 == 1;", 7);
        syntax("give 1 and 2;", 7);
        syntax("give 1 give 2;", 7);
        syntax("give 1 (2);", 7);
        syntax("give give;", 5);
        syntax("give 1 if;", 9);
        syntax("give 1 if 1;", 11);
        syntax("give 1 if 1 and 1 == 1;", 12);
        syntax("give 1 if 1 == 1 == 1;", 17);
        syntax("give 1 if 1 == 1 if 1 == 1;", 17);
        syntax("give 1 if 1 == 1 and;", 20);
        syntax("give 1 if (1 == 1);", 13);
        syntax("give 1 if 1 == (1;", 17);
        syntax("give 1 if 1 == 1 or or 1 == 1;", 20);
        syntax("bar 1;", 5);
        syntax("bar;", 3);
        syntax("bar 1 if 1 == 1;", 6);
        syntax("bar if 1 == 1;", 4);
        syntax("bar 1 == 1 if 1 == 1;", 11);
        syntax("pay;", 3);
        syntax("give 1;;", 7);
        syntax("give 1; 2;", 8);
        syntax("give 1; or", 8);
        syntax("give not;", 5);
    }

    private static void ends() {
        good("");
        syntax("give", 4);
        syntax("give  ", 6);
        syntax("give 1", 6);
        syntax("give 1 if", 9);
        syntax("give 1 if 1", 11);
        syntax("give 1 if 1 == ", 15);
        syntax("bar 1 == 1\n", 11);
        syntax("give (1", 7);
        syntax("pay 1; bar", 10);
        String blanks = " ".repeat(2000);
        good(blanks);
        syntax("pay" + blanks.substring(3), 2000);
        good(blanks.substring(6) + "pay 1;");
    }

    /** A rule of so many tokens, an odd number: give 1+1+ .. +1; */
    private static String ruleOf(int tokens) {
        StringBuilder text = new StringBuilder("give 1");
        for (int t = 3; t < tokens; t += 2) {
            text.append("+1");
        }
        return text.append(';').toString();
    }

    private static void manyTokens() {
        String most = ruleOf(201) + ruleOf(199);
        good(most);
        good(most + "    ");
        room(most + "give 1;", most.length());
        room(most + "  bar 1 == 1;", most.length() + 2);
        syntax(most + "x", most.length());
        syntax(most + ";", most.length());
        syntax(most + "#", most.length());
        String plusLast = ruleOf(201) + ruleOf(201);
        room(plusLast, plusLast.length() - 2);
        String behindPlus = plusLast.substring(0, plusLast.length() - 2);
        syntax(behindPlus, behindPlus.length());
        syntax(behindPlus + "  ", behindPlus.length() + 2);
        syntax(behindPlus + ";", behindPlus.length());
        room(behindPlus + " 1", behindPlus.length() + 1);
        room(behindPlus + "(", behindPlus.length());
        String unitLast = ruleOf(401);
        room(unitLast, unitLast.length() - 1);
        room(unitLast + "#", unitLast.length() - 1);
        String behindUnit = unitLast.substring(0, unitLast.length() - 1);
        syntax(behindUnit, behindUnit.length());
        syntax(behindUnit + " 1", behindUnit.length() + 1);
        room(behindUnit + "*", behindUnit.length());
    }

    private static void manyRules() {
        String twenty = "pay 1;".repeat(20);
        good(twenty);
        Village v = new Village();
        Check.read(v, twenty);
        c.due("count(9)", v.count(9), 20);
        room(twenty + " give 1;", 121);
        room(twenty + "bar 1 == 1;", 120);
        room(twenty + "pay", 120);
        syntax(twenty + "1", 120);
        syntax(twenty + "foo", 120);
        syntax("pay 1;".repeat(19) + "pay ;" + "pay 1;", 118);
    }

    private static void manyBrackets() {
        good("give ((((((1))))));");
        good("give ((((((1))))))*((((((2))))));");
        good("bar ((((((1)))))) == ((((((1))))));");
        room("give (((((((1)))))));", 11);
        room("give (((((((", 11);
        room("bar 1 == 1 and 1+(((((( (1)))))));", 24);
        room("give ((((((1)+((2)))))));", 15);
        syntax("give ((((((1(", 12);
        syntax("give ((((((1)))))));", 18);
    }

    private static void whichFault() {
        syntax("give @ (((((((1)))))));", 5);
        room("give (((((((@)))))));", 11);
        room("give (((((((1)))))", 11);
    }

    private static void faultsChangeNothing() {
        Village v = new Village();
        c.due("read()", Check.read(v, "give 1; pay 2; bar 1 == 2;"), 0);
        c.due("count(9)", v.count(9), 3);
        c.due("read()", Check.read(v, "give 1; pay 2; give"), 1);
        c.due("place()", v.place(), 19);
        c.due("place() again", v.place(), 19);
        c.due("count(9)", v.count(9), 3);
        c.due("count(11)", v.count(11), 0);
        payIs(v, 2);
        c.due("read()", Check.read(v, "pay 7;"), 0);
        c.due("place()", v.place(), -1);
        c.due("count(9)", v.count(9), 1);
        payIs(v, 7);
        c.due("read()", Check.read(v, "pay 8; pay 9; (((("), 1);
        c.due("read()", Check.read(v, "pay (((((((1"), 2);
        payIs(v, 7);
        c.due("read() of an empty tape", v.read(), 0);
        c.due("place()", v.place(), -1);
        c.due("count(9)", v.count(9), 0);
        payIs(v, 0);
    }

    /** Boxes one new figure and looks at what it brought. */
    private static void payIs(Village v, int want) {
        v.kind(1, 1, 1);
        v.family(1, false);
        v.own(0, 0);
        v.log(1, 0);
        v.give();
        int order = v.order(1);
        v.need(order, 1, 0, -1);
        v.box();
        c.due("figure(.., 6)", v.figure(v.packed(order, 0), 6), want);
    }
}
