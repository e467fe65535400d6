/** Promises 4 and 5: the edges of TOKENS and of FAULTS, as the document's part II names them. */
public final class TextEdgesTest {
    private static final Check c = new Check("TextEdgesTest");

    public static void main(String[] args) {
        blanks();
        longestThatCanBe();
        words();
        wordsOfRules();
        ints();
        signs();
        noToken();
        textsEnd();
        goesOn();
        tokens401();
        rules21();
        brackets7();
        firstByPlace();
        leastOfOnePlace();
        faultChangesNothing();
        eachTextAnew();
        inPlaceOfTheOneAhead();
        c.end();
    }

    private static void good(String text) {
        c.reads(text, 0, -1);
    }

    private static void syntax(String text, int place) {
        c.reads(text, 1, place);
    }

    private static void room(String text, int place) {
        c.reads(text, 2, place);
    }

    private static boolean isOneOf(int b, String bytes) {
        return bytes.indexOf(b) >= 0;
    }

    private static boolean isLetter(int b) {
        return b >= 97 && b <= 122;
    }

    private static boolean isDigit(int b) {
        return b >= 48 && b <= 57;
    }

    private static boolean isBlank(int b) {
        return b == 9 || b == 10 || b == 13 || b == 32;
    }

    private static void blanks() {
        c.sentence("Terms II: TOKENS, the longest that can be, with blanks (9, 10, 13, 32) between or not");
        good("give(hands+1)*2if widow==1and load<=3or money!=0;bar 1<2;");
        good("\t\n\r give\t(\nhands\r+ 1 )\t*\n2\rif widow\t==\n1\rand load <= 3\tor\nmoney != 0\r;\tbar 1\n<\r2 ; \t\n\r");
        // Each byte between a word and an int.
        for (int b = 0; b < 256; b++) {
            String text = "pay" + (char) b + "1;";
            if (isBlank(b) || isDigit(b)) {
                good(text);
            } else if (isLetter(b)) {
                syntax(text, 0);
            } else {
                syntax(text, b == '(' ? 5 : 3);
            }
        }
        // Each byte ahead of all else, and behind all else.
        for (int b = 0; b < 256; b++) {
            c.reads((char) b + "pay 1;", isBlank(b) ? 0 : 1, isBlank(b) ? -1 : 0);
            c.reads("pay 1;" + (char) b, isBlank(b) ? 0 : 1, isBlank(b) ? -1 : 6);
        }
    }

    private static void longestThatCanBe() {
        c.sentence("Terms II: TOKENS, the longest that can be");
        syntax("payhands;", 0);
        syntax("giveload;", 0);
        syntax("give loadif 1==1;", 5);
        syntax("give 1 if 1==1orhands==1;", 14);
        good("give 1if 1==1or 1==1;");
        good("pay 12;");
        syntax("pay 1 2;", 6);
        syntax("bar 1< =2;", 7);
        syntax("bar 1<==2;", 7);
        syntax("bar 1===2;", 7);
        syntax("bar 1!==2;", 7);
        syntax("bar 1= =2;", 5);
        syntax("bar 1! =2;", 5);
        good("bar 1<=2;");
        c.due("1 <= 1 is no <", Scenes.holds("1<=1"), true);
        c.due("1 < 1", Scenes.holds("1<1"), false);
    }

    private static void words() {
        c.sentence("Terms II: WORDS (letters a .. z, 8 at most)");
        syntax("a", 0);
        syntax("pay a;", 4);
        syntax("pay z;", 4);
        syntax("pay seasonss;", 4);
        syntax("pay seasonsss;", 4);
        syntax("pay 1 abcdefgh", 6);
        syntax("pay 1 abcdefghi", 6);
        syntax("pay " + "hands".repeat(399) + ";", 4);
        syntax("a".repeat(2000), 0);
        for (String word : new String[] {"hands", "widow", "load", "money", "kind", "worth", "slices", "season"}) {
            good("pay " + word + ";");
            good("bar " + word + "==" + word + ";");
            syntax("pay " + word.toUpperCase() + ";", 4);
            syntax("pay " + word.substring(1) + ";", 4);
            syntax("pay " + word + "a;", 4);
            for (int i = 0; i < word.length(); i++) {
                syntax("pay " + word.substring(0, i) + "q" + word.substring(i + 1) + ";", 4);
            }
            syntax(word + ";", 0);
            syntax("pay 1 " + word + ";", 6);
        }
    }

    private static void wordsOfRules() {
        c.sentence("Terms II: RULE: 'give' .. 'bar' .. 'pay' .. 'if' .. 'or' .. 'and'");
        String[] aheads = {"", "", "", "pay 1 ", "bar 1==1 ", "bar 1==1 "};
        String[] words = {"give", "bar", "pay", "if", "or", "and"};
        String[] behinds = {" 1;", " 1==1;", " 1;", " 1==1;", " 1==1;", " 1==1;"};
        for (int w = 0; w < words.length; w++) {
            String word = words[w];
            good(aheads[w] + word + behinds[w]);
            syntax(aheads[w] + word.substring(1) + behinds[w], aheads[w].length());
            syntax(aheads[w] + word + "q" + behinds[w], aheads[w].length());
            for (int i = 0; i < word.length(); i++) {
                syntax(aheads[w] + word.substring(0, i) + "q" + word.substring(i + 1) + behinds[w], aheads[w].length());
            }
        }
    }

    private static void ints() {
        c.sentence("Terms II: INTS (1 to 4 digits)");
        String[] texts = {"0", "9", "10", "99", "100", "999", "1000", "9999", "0000", "0001", "0090", "00"};
        int[] values = {0, 9, 10, 99, 100, 999, 1000, 9999, 0, 1, 90, 0};
        for (int i = 0; i < texts.length; i++) {
            c.due(texts[i], Scenes.valueOf(texts[i]), values[i]);
        }
        for (String longer : new String[] {"00000", "00001", "10000", "12345", "99999", "4294967297", "1".repeat(1990)}) {
            syntax("pay " + longer + ";", 4);
            syntax("pay 1+" + longer, 6);
        }
        syntax("pay 1 99999;", 6);
    }

    private static void signs() {
        c.sentence("Terms II: SIGNS ; + - * == != < <= ( ) .");
        good("pay 1;");
        good("pay 1+1;");
        good("pay 1-1;");
        good("pay 1*1;");
        good("pay (1);");
        for (String sign : new String[] {"==", "!=", "<", "<="}) {
            good("bar 1" + sign + "1;");
            good("bar 1 " + sign + " 1;");
        }
        for (String none : new String[] {"=", "!", ">", ">=", "=<", "&", "|", "/", "%", ",", ".", ":", "[", "]", "{", "}"}) {
            syntax("bar 1 " + none + " 1;", 6);
        }
        syntax("bar 1=", 5);
        syntax("bar 1!", 5);
        syntax("bar 1<", 6);
    }

    private static void noToken() {
        c.sentence("Terms II: A longer one, all else, is no TOKEN.");
        // Each byte behind an int: what may stand there brings the fault one byte later, if any.
        for (int b = 0; b < 256; b++) {
            String text = "pay 1" + (char) b + ";";
            if (isBlank(b) || isDigit(b)) {
                good(text);
            } else {
                syntax(text, isOneOf(b, "+-*;") ? 6 : 5);
            }
        }
        // Each byte where a unit is due.
        for (int b = 0; b < 256; b++) {
            String text = "pay 1+" + (char) b;
            syntax(text, isBlank(b) || isDigit(b) || b == '(' ? 7 : 6);
        }
    }

    private static void textsEnd() {
        c.sentence("Terms II: FAULTS, the first by its place (a byte; the text's end: its length)");
        String[] tokens = {"give", " ", "(", "1", "+", "hands", ")", "*", "2", " ", "if", " ", "widow", "==", "1", " ", "and",
            " ", "load", "<=", "3", " ", "or", " ", "money", "!=", "0", ";", "bar", " ", "kind", "<", "2", ";", "pay", " ", "7", ";"};
        StringBuilder text = new StringBuilder();
        for (String token : tokens) {
            int start = text.length();
            for (int i = 1; i < token.length(); i++) {
                // Half a word and half of == or != are none; < alone is one.
                int place = token.equals("<=") ? start + i : start;
                syntax(text + token.substring(0, i), place);
            }
            text.append(token);
            boolean whole = token.equals(";");
            c.reads(text.toString(), whole ? 0 : 1, whole ? -1 : text.length());
            c.reads(text + " \n", whole ? 0 : 1, whole ? -1 : text.length() + 2);
        }
        good("");
        good("\n");
    }

    private static void goesOn() {
        c.sentence("Terms II: 1 SYNTAX: a TOKEN, or what is none, with which no text goes on.");
        String[] all = {"give", "bar", "pay", "if", "and", "or", "hands", "1", ";", "+", "-", "*", "==", "!=", "<", "<=", "(", ")"};
        follow("", all, "give bar pay");
        follow("pay 1;", all, "give bar pay");
        follow("bar 1 == 1;", all, "give bar pay");
        for (String unit : new String[] {"give", "pay", "bar", "give (", "give 1 +", "give 1 -", "give 1 *", "bar 1 ==",
            "bar 1 <", "give 1 if", "give 1 if 1 == 1 and", "give 1 if 1 == 1 or", "bar 1 == (", "bar (1 +"}) {
            follow(unit, all, "hands 1 (");
        }
        for (String head : new String[] {"give 1", "pay hands", "give (1)", "pay 1 + 2", "give 1 * (2 - 3)"}) {
            follow(head, all, "+ - * if ;");
        }
        for (String left : new String[] {"bar 1", "bar (hands)", "give 1 if 1", "pay 1 if 1 == 1 and 1 + 1", "bar 1 == 1 or 1 * 1"}) {
            follow(left, all, "+ - * == != < <=");
        }
        for (String right : new String[] {"bar 1 == 1", "bar 1 < (1)", "give 1 if 1 <= hands", "pay 1 if 1 == 1 or 1 != 1 - 1"}) {
            follow(right, all, "+ - * and or ;");
        }
        for (String inner : new String[] {"give (1", "give ((1)", "bar (1", "bar 1 == (1 + 1", "pay 1 if (1 * 1"}) {
            follow(inner, all, "+ - * )");
        }
    }

    /** Of all tokens, just the named ones bring no fault at their own place. */
    private static void follow(String ahead, String[] all, String named) {
        for (String token : all) {
            boolean may = (" " + named + " ").contains(" " + token + " ");
            String text = ahead + " " + token;
            if (may && token.equals(";")) {
                good(text);
            } else {
                syntax(text, may ? text.length() : ahead.length() + 1);
            }
        }
    }

    /** A rule of so many tokens, an odd number of them: pay 1+1+ .. +1; */
    private static String ruleOf(int tokens) {
        return "pay 1" + "+1".repeat((tokens - 3) / 2) + ";";
    }

    private static void tokens401() {
        c.sentence("Terms II: 2 ROOM: a 401st TOKEN");
        String ahead = ruleOf(201);
        good(ahead + ruleOf(197));
        String most = ahead + ruleOf(199);
        good(most);
        good(most + " \n");
        for (String first : new String[] {"give", "bar", "pay"}) {
            room(most + first, most.length());
            room(most + "  " + first + " 1;", most.length() + 2);
        }
        String more = ahead + ruleOf(201);
        room(more, more.length() - 2);
        room(more + "pay 1;", more.length() - 2);
        // Each kind of token as the 401st, behind what it may follow.
        String behindUnit = ruleOf(401).substring(0, ruleOf(401).length() - 1);
        for (String token : new String[] {";", "+", "-", "*", "if"}) {
            room(behindUnit + token, behindUnit.length());
        }
        String behindSign = ahead + ruleOf(199).substring(0, ruleOf(199).length() - 1) + "+";
        for (String token : new String[] {"hands", "7", "("}) {
            room(behindSign + token, behindSign.length());
        }
        String behindLeft = ruleOf(395) + "bar(1+1";
        room(behindLeft + ")", behindLeft.length());
        String behindSide = ruleOf(199) + ruleOf(197) + "bar 1+1";
        for (String token : new String[] {"==", "!=", "<", "<="}) {
            room(behindSide + token, behindSide.length());
        }
        String behindRight = ruleOf(199) + ruleOf(197) + "bar 1 == 1";
        room(behindRight + ";", behindRight.length());
        room(behindRight + " and", behindRight.length() + 1);
        room(behindRight + " or", behindRight.length() + 1);
        // As short as tokens can be: the tape has room for many more than 401.
        String dense = "pay 1" + "+1".repeat(995);
        room(dense, 5 + 399 - 1);
    }

    private static void rules21() {
        c.sentence("Terms II: 2 ROOM: a 21st RULE (at its first TOKEN)");
        String nineteen = "pay 1;".repeat(19);
        Village v = new Village();
        c.due("read() of 20", Check.read(v, nineteen + "bar 1 == 1;"), 0);
        c.due("count(9)", v.count(9), 20);
        for (String rule : new String[] {"pay 1;", "give 1;", "bar 1 == 1;", "pay", "give @"}) {
            c.due("read() of 21", Check.read(v, nineteen + "pay 2;\n" + rule), 2);
            c.due("place()", v.place(), 121);
            c.due("count(9)", v.count(9), 20);
        }
        // 20 rules of 400 tokens in all.
        String both = (ruleOf(19) + ruleOf(21)).repeat(10);
        good(both);
        room(both + "bar", both.length());
    }

    private static void brackets7() {
        c.sentence("Terms II: 2 ROOM: a 7th ( within one another (at it)");
        String six = "((((((1))))))";
        String seven = "(((((((1)))))))";
        String[] aheads = {"pay ", "give ", "bar ", "bar 1 == ", "pay 1 if ", "give 1 if 1 < ", "bar 1 == 1 and ", "bar 1 == 1 or 1 <= ",
            "pay 1 + ", "pay 2 * " + six + " - "};
        String[] behinds = {";", ";", " == 1;", ";", " == 1;", ";", " == 1;", ";", ";", ";"};
        for (int i = 0; i < aheads.length; i++) {
            good(aheads[i] + six + behinds[i]);
            room(aheads[i] + seven + behinds[i], aheads[i].length() + 6);
        }
        good("pay " + six + "+" + six + "*" + six + ";");
        good("pay (((((1)+(1)+(1)*(1)-((1))))));");
        good("pay (1)+(1)+(1)+(1)+(1)+(1)+(1)+(1);");
        good("pay ((((((1)))*(((1))))));");
        room("pay ((((((1)))*((((1)))))));", 18);
        room("pay (((((1+(2*(3", 14);
        c.due("six of them", Scenes.valueOf("2*(1+(2*(3+(4*(5-(6-7)*8)))))"), 2 * (1 + 2 * (3 + 4 * (5 + 8))));
    }

    private static void firstByPlace() {
        c.sentence("Terms II: FAULTS, the first by its place");
        room("pay (((((((@", 10);
        syntax("pay ((((((@(", 10);
        syntax("pay 1;".repeat(19) + "pay ;pay 1;", 118);
        room("pay 1;".repeat(20) + "pay ;", 120);
        syntax("pay 1 1" + "+1".repeat(500) + ";", 6);
        room("pay 1" + "+1".repeat(500) + "@", 403);
        syntax("pay 1" + "+1".repeat(100) + "@" + "+1".repeat(500), 205);
        syntax("@@", 0);
    }

    private static void leastOfOnePlace() {
        c.sentence("Terms II: of one place the least");
        String most = ruleOf(201) + ruleOf(199);
        for (String wrong : new String[] {"@", ";", "1", "(", "hands", "if", "12345", "abcdefghi", "="}) {
            syntax(most + wrong, most.length());
        }
        String twenty = "pay 1;".repeat(20);
        for (String wrong : new String[] {"@", ";", "1", "(", "hands", "or", "gives"}) {
            syntax(twenty + wrong, 120);
        }
        syntax("pay ((((((1(", 11);
        syntax("pay ((((((hands (", 16);
        syntax("pay 1 if ((((((1)))))) (", 23);
        String behindUnit = "pay 1" + "+1".repeat(199);
        syntax(behindUnit, behindUnit.length());
        syntax(behindUnit + "(", behindUnit.length());
        syntax(behindUnit + ")", behindUnit.length());
        String sixOpen = ruleOf(393) + "pay((((((";
        room(sixOpen + "(", sixOpen.length());
        syntax(sixOpen + ")", sixOpen.length());
    }

    private static void faultChangesNothing() {
        c.sentence("Terms II: A text with a FAULT changes nothing");
        String[] faulty = {"@", "pay 9; bar 1 == 1; give 0 - hands; pay", "pay 9;".repeat(21), "pay 9; bar 1 == 1; pay (((((((1)))))));",
            "pay 9; " + ruleOf(401), "bar 1 == 1;".repeat(19) + "give"};
        for (String text : faulty) {
            Village v = ruled();
            c.due("read() of a FAULT", Check.read(v, text) != 0, true);
            c.due("count(9)", v.count(9), 4);
            looksRuled(v);
        }
        Village v = ruled();
        for (String text : faulty) {
            Check.read(v, text);
        }
        looksRuled(v);
    }

    /** Family 0 has 2 hands, family 1 has 5, family 2 has 9: the text gives to 1 and pays 70 and 3. */
    private static Village ruled() {
        Village v = new Village();
        v.kind(1, 1, 1);
        for (int hands : new int[] {2, 5, 9}) {
            v.family(hands, false);
            v.own(v.count(1) - 1, 0);
        }
        Check.read(v, "give hands; bar hands == 9; pay 70 if hands == 5; pay 3;");
        return v;
    }

    private static void looksRuled(Village v) {
        v.log(1, 0);
        c.due("give()", v.give(), 1);
        c.due("ring(0, 3)", v.ring(0, 3), 1);
        v.order(1);
        v.need(0, 1, 0, -1);
        v.box();
        c.due("money(1)", v.money(1), 70);
    }

    private static void eachTextAnew() {
        c.sentence("Terms II: 2 ROOM (what texts ahead had does not count)");
        String most = ruleOf(201) + ruleOf(199);
        Village v = new Village();
        for (int i = 0; i < 4; i++) {
            c.due("read() of 400 tokens", Check.read(v, most), 0);
            c.due("count(9)", v.count(9), 2);
            c.due("read() of open brackets", Check.read(v, "pay ((((((1"), 1);
            c.due("read() of six brackets", Check.read(v, "pay ((((((1))))));"), 0);
        }
        v = new Village();
        for (int i = 0; i < 4; i++) {
            c.due("read() of a fault behind 400 tokens", Check.read(v, most + "@"), 1);
            c.due("place()", v.place(), most.length());
            c.due("read() of half a rule", Check.read(v, "pay 1 if 1=="), 1);
            c.due("place()", v.place(), 12);
        }
        c.due("read() of 400 tokens", Check.read(v, most), 0);
        v = new Village();
        String twenty = "pay 1;".repeat(19) + "bar 1==2;";
        for (int i = 0; i < 4; i++) {
            c.due("read() of 20 rules", Check.read(v, twenty), 0);
            c.due("count(9)", v.count(9), 20);
            c.due("read() of 21 rules", Check.read(v, twenty + "pay 1;"), 2);
            c.due("place()", v.place(), 123);
        }
    }

    private static void inPlaceOfTheOneAhead() {
        c.sentence("Terms II: else it is in place of the one ahead.");
        Village v = ruled();
        Check.read(v, "pay 8;");
        c.due("count(9)", v.count(9), 1);
        v.log(1, 0);
        v.give();
        c.due("ring(0, 3)", v.ring(0, 3), 0);
        c.due("pay of the new one", Scenes.paid(v, "pay 8;"), 8);
        v = ruled();
        c.due("read() of nothing", v.read(), 0);
        c.due("count(9)", v.count(9), 0);
        v.log(1, 0);
        v.give();
        c.due("ring(0, 3)", v.ring(0, 3), 0);
        c.due("pay without RULES", Scenes.paid(v, ""), 0);
        v = ruled();
        c.due("read()", Check.read(v, "bar 1 == 1;"), 0);
        v.log(1, 0);
        c.due("give()", v.give(), 0);
        c.due("read()", Check.read(v, "bar 1 == 2;"), 0);
        c.due("give()", v.give(), 1);
    }
}
