/**
 * A village that carves toys, from the log to the box and back.
 *
 * <p>All rows are made in the constructors and used again, so that no call makes an object.
 */
public final class ToyVillage {
    public static final int NONE = -1;

    private static final int SEASONS = 40;
    private static final int KINDS_MOST = 8;
    private static final int WIDTH_MOST = 9;
    private static final int SLICES_MOST = 12;
    private static final int KIND_WORTH_MOST = 100;
    private static final int FAMILIES_MOST = 8;
    private static final int HANDS_MOST = 9;
    private static final int LENDINGS_MOST = 100;
    private static final int LOGS_MOST = 30;
    private static final int LENGTH_MOST = 60;
    private static final int RINGS_MOST = 200;
    private static final int FIGURES_MOST = 400;
    private static final int LOTS_MOST = 20;
    private static final int COLOURS = 5;
    private static final int ORDERS_MOST = 8;
    private static final int ORDER_WORTH_MOST = 1000;
    private static final int NEEDS_MOST = 4;
    private static final int MANY_MOST = 20;

    private static final int TAPE_MOST = 2000;
    private static final int FEED_BYTES = 20;
    private static final int TOKENS_MOST = 400;
    private static final int RULES_MOST = 20;
    private static final int NESTING_MOST = 6;
    private static final int LETTERS_MOST = 8;
    private static final int DIGITS_MOST = 4;

    private static final int NO_FAULT = 0;
    private static final int SYNTAX_FAULT = 1;
    private static final int ROOM_FAULT = 2;

    private static final int END = 0;
    private static final int NO_TOKEN = 1;
    private static final int NUMBER = 2;
    private static final int GIVE = 3;
    private static final int BAR = 4;
    private static final int PAY = 5;
    private static final int IF = 6;
    private static final int AND = 7;
    private static final int OR = 8;
    private static final int SEMICOLON = 9;
    private static final int PLUS = 10;
    private static final int MINUS = 11;
    private static final int TIMES = 12;
    private static final int EQUAL = 13;
    private static final int UNEQUAL = 14;
    private static final int LESS = 15;
    private static final int LESS_EQUAL = 16;
    private static final int OPENING = 17;
    private static final int CLOSING = 18;
    // The variables are the last tokens, so that token - FIRST_VARIABLE is a place among the facts.
    private static final int FIRST_VARIABLE = 19;
    private static final int VARIABLES = 8;
    private static final int HANDS = 0;
    private static final int WIDOW = 1;
    private static final int LOAD = 2;
    private static final int MONEY = 3;
    private static final int KIND = 4;
    private static final int WORTH = 5;
    private static final int SLICES = 6;
    private static final int SEASON = 7;

    private static final int ORDER_OPEN = 0;
    private static final int ORDER_BOXED = 1;
    private static final int ORDER_REFUSED = 2;

    private final Tape tape = new Tape();
    private final Parser parser = new Parser(tape);
    private Rules rules = new Rules();
    private Rules draft = new Rules();
    private int faultPlace = NONE;

    private int now = 0;
    private final Kinds kinds = new Kinds();
    private final Families families = new Families();
    private final Cutter cutter = new Cutter(kinds);
    private final Rings rings = new Rings();
    private final Figures figures = new Figures(rings);
    private final Orders orders = new Orders();
    private final Boxing boxing = new Boxing(orders, figures);
    private final int[] facts = new int[VARIABLES];

    public ToyVillage() {
    }

    public int feed(int a, int b, int c, int d, int e) {
        if (tape.length > TAPE_MOST - FEED_BYTES) {
            return NONE;
        }
        tape.append(a);
        tape.append(b);
        tape.append(c);
        tape.append(d);
        tape.append(e);
        return tape.length;
    }

    public int back(int n) {
        if (n < 0 || n > tape.length) {
            return NONE;
        }
        tape.length -= n;
        return tape.length;
    }

    public int read() {
        int fault = parser.parseInto(draft);
        tape.length = 0;
        if (fault == NO_FAULT) {
            putDraftInForce();
            faultPlace = NONE;
        } else {
            faultPlace = parser.reached();
        }
        return fault;
    }

    public int place() {
        return faultPlace;
    }

    public int kind(int width, int slices, int worth) {
        boolean fits = isWithin(width, 1, WIDTH_MOST)
                && isWithin(slices, 1, SLICES_MOST)
                && isWithin(worth, 0, KIND_WORTH_MOST);
        return fits ? kinds.add(width, slices, worth) : NONE;
    }

    public int family(int hands, boolean widow) {
        return isWithin(hands, 1, HANDS_MOST) ? families.add(hands, widow) : NONE;
    }

    public boolean own(int family, int kind) {
        if (!families.has(family) || !kinds.has(kind) || families.owns(family, kind)) {
            return false;
        }
        families.makeOwner(family, kind);
        return true;
    }

    public boolean lend(int from, int to, int kind, int until) {
        if (!families.has(from) || !families.has(to) || from == to || !kinds.has(kind)) {
            return false;
        }
        if (!families.owns(from, kind) || !isWithin(until, now + 1, SEASONS)) {
            return false;
        }
        return families.addLending(to, kind, now, until);
    }

    public int may(int family, int kind, int season) {
        if (!families.has(family) || !kinds.has(kind) || !isSeason(season)) {
            return NONE;
        }
        return families.mayCarve(family, kind, season) ? 1 : 0;
    }

    public int season() {
        if (now >= SEASONS - 1) {
            return NONE;
        }
        now++;
        return now;
    }

    public int log(int length, long flaws) {
        if (!isWithin(length, 1, LENGTH_MOST) || flaws < 0 || (flaws >>> length) != 0) {
            return NONE;
        }
        cutter.cut(length, flaws, families.carvable(now));
        if (rings.logs >= LOGS_MOST || cutter.ringsOfBest() > RINGS_MOST - rings.count) {
            return NONE;
        }
        return storeCutLog(length);
    }

    public int give() {
        int given = 0;
        for (int r = 0; r < rings.count; r++) {
            int kind = rings.kind[r];
            if (rings.family[r] == NONE && kinds.slices[kind] <= FIGURES_MOST - figures.count) {
                int taker = takerOf(kind);
                if (taker != NONE) {
                    carve(r, taker);
                    given++;
                }
            }
        }
        return given;
    }

    public int lot(int colour) {
        return isWithin(colour, 0, COLOURS - 1) ? figures.addLot(colour) : NONE;
    }

    public int paint(int lot, int a, int b) {
        if (!figures.hasLot(lot) || !figures.has(a) || !figures.has(b) || a > b) {
            return NONE;
        }
        int painted = 0;
        for (int f = a; f <= b; f++) {
            if (figures.lot[f] == NONE && figures.order[f] == NONE) {
                figures.lot[f] = lot;
                painted++;
            }
        }
        return painted;
    }

    public int order(int worth) {
        return isWithin(worth, 0, ORDER_WORTH_MOST) ? orders.add(worth) : NONE;
    }

    public int need(int order, int many, int kind, int colour) {
        if (!orders.has(order) || orders.state[order] != ORDER_OPEN) {
            return NONE;
        }
        if (!isWithin(many, 1, MANY_MOST) || !kinds.has(kind) || !isColourOrNone(colour)) {
            return NONE;
        }
        return orders.addNeed(order, many, kind, colour);
    }

    public int box() {
        int set = boxing.bestSet();
        orders.markBoxed(set, now);
        boxing.fill(set);
        payFor(set);
        return orders.worthOf(set);
    }

    public int refuse(int order) {
        if (!orders.has(order) || orders.state[order] != ORDER_BOXED) {
            return NONE;
        }
        orders.state[order] = ORDER_REFUSED;
        int freed = 0;
        for (int f = 0; f < figures.count; f++) {
            if (figures.order[f] == order) {
                unbox(f);
                freed++;
            }
        }
        return freed;
    }

    public int ring(int r, int what) {
        if (!rings.has(r)) {
            return NONE;
        }
        switch (what) {
            case 0: return rings.log[r];
            case 1: return rings.unit[r];
            case 2: return rings.kind[r];
            case 3: return rings.family[r];
            case 4: return rings.firstFigure[r];
            default: return NONE;
        }
    }

    public int figure(int f, int what) {
        if (!figures.has(f)) {
            return NONE;
        }
        int ring = figures.ring[f];
        switch (what) {
            case 0: return ring;
            case 1: return rings.log[ring];
            case 2: return rings.kind[ring];
            case 3: return rings.family[ring];
            case 4: return figures.lot[f];
            case 5: return figures.order[f];
            case 6: return figures.pay[f];
            case 7: return figures.season[f];
            default: return NONE;
        }
    }

    public int packed(int order, int i) {
        if (!orders.has(order)) {
            return NONE;
        }
        int seen = 0;
        for (int f = 0; f < figures.count; f++) {
            if (figures.order[f] == order) {
                if (seen == i) {
                    return f;
                }
                seen++;
            }
        }
        return NONE;
    }

    public int told(int order, int what) {
        if (!orders.has(order)) {
            return NONE;
        }
        switch (what) {
            case 0: return orders.state[order];
            case 1: return orders.worth[order];
            case 2: return orders.figuresNeeded(order);
            case 3: return orders.needs[order];
            case 4: return orders.season[order];
            default: return NONE;
        }
    }

    public int found(int lot, int i) {
        if (!figures.hasLot(lot)) {
            return NONE;
        }
        int seen = 0;
        for (int o = 0; o < orders.count; o++) {
            if (figures.isLotInBoxOf(lot, o)) {
                if (seen == i) {
                    return o;
                }
                seen++;
            }
        }
        return NONE;
    }

    public int rest(int kind, int colour) {
        if (!kinds.has(kind) || !isColourOrNone(colour)) {
            return NONE;
        }
        int free = 0;
        for (int f = 0; f < figures.count; f++) {
            if (figures.isFree(f, kind) && figures.colourOf(f) == colour) {
                free++;
            }
        }
        return free;
    }

    public int money(int family) {
        return families.has(family) ? families.money[family] : 0;
    }

    public int load(int family, int season) {
        return families.has(family) && isSeason(season) ? families.carvedIn(family, season) : NONE;
    }

    public int waste(int log) {
        return log >= 0 && log < rings.logs ? rings.wasted[log] : NONE;
    }

    public int count(int what) {
        switch (what) {
            case 0: return kinds.count;
            case 1: return families.count;
            case 2: return rings.logs;
            case 3: return rings.count;
            case 4: return rings.waiting();
            case 5: return figures.count;
            case 6: return figures.boxed();
            case 7: return figures.lots;
            case 8: return orders.count;
            case 9: return rules.count;
            case 10: return now;
            case 11: return tape.length;
            default: return NONE;
        }
    }

    private static boolean isWithin(int number, int least, int most) {
        return number >= least && number <= most;
    }

    private static boolean isSeason(int season) {
        return isWithin(season, 0, SEASONS - 1);
    }

    private static boolean isColourOrNone(int colour) {
        return colour == NONE || isWithin(colour, 0, COLOURS - 1);
    }

    // The two change places, so that a text with a fault leaves the rules in force untouched.
    private void putDraftInForce() {
        Rules former = rules;
        rules = draft;
        draft = former;
    }

    private int storeCutLog(int length) {
        int log = rings.addLog();
        int unit = 0;
        // Each step takes a unit at least, so there are no more steps than units.
        for (int step = 0; step < length && unit < length; step++) {
            int kind = cutter.choiceAt(unit);
            if (kind == NONE) {
                rings.wasted[log]++;
                unit++;
            } else {
                rings.add(log, unit, kind);
                unit += kinds.width[kind];
            }
        }
        return log;
    }

    private int takerOf(int kind) {
        int taker = NONE;
        int greatest = 0;
        for (int family = 0; family < families.count; family++) {
            if (families.mayCarve(family, kind, now)) {
                tellFacts(family, kind);
                int claim = rules.firstValue(GIVE, facts);
                if ((taker == NONE || claim > greatest) && !rules.bars(facts)) {
                    taker = family;
                    greatest = claim;
                }
            }
        }
        return taker;
    }

    private void carve(int ring, int family) {
        int slices = kinds.slices[rings.kind[ring]];
        rings.family[ring] = family;
        rings.firstFigure[ring] = figures.count;
        for (int i = 0; i < slices; i++) {
            figures.add(ring, now);
        }
        families.addCarved(family, now, slices);
    }

    private void tellFacts(int family, int kind) {
        facts[HANDS] = families.hands[family];
        facts[WIDOW] = families.widow[family] ? 1 : 0;
        facts[LOAD] = families.carvedIn(family, now);
        facts[MONEY] = families.money[family];
        facts[KIND] = kind;
        facts[WORTH] = kinds.worth[kind];
        facts[SLICES] = kinds.slices[kind];
        facts[SEASON] = now;
    }

    // Money changes from figure to figure, and a rule may look at it: hence by figures, not by orders.
    private void payFor(int set) {
        for (int f = 0; f < figures.count; f++) {
            if (Orders.isIn(set, figures.order[f])) {
                int family = figures.familyOf(f);
                tellFacts(family, figures.kindOf(f));
                int pay = rules.firstValue(PAY, facts);
                figures.pay[f] = pay;
                families.money[family] += pay;
            }
        }
    }

    private void unbox(int figure) {
        families.money[figures.familyOf(figure)] -= figures.pay[figure];
        figures.pay[figure] = 0;
        figures.order[figure] = NONE;
    }

    /** The bytes that have come and are not read yet. */
    private static final class Tape {
        private final byte[] bytes = new byte[TAPE_MOST];
        private int length = 0;

        void append(int word) {
            for (int shift = 24; shift >= 0 && length < TAPE_MOST; shift -= 8) {
                bytes[length] = (byte) (word >> shift);
                length++;
            }
        }

        int at(int i) {
            return i >= 0 && i < length ? bytes[i] & 255 : NONE;
        }
    }

    /** Cuts the tape into tokens, one a step. */
    private static final class Scanner {
        private final Tape tape;
        private int start = 0;
        private int next = 0;
        private int token = END;
        private int value = 0;

        Scanner(Tape tape) {
            this.tape = tape;
        }

        void restart() {
            start = 0;
            next = 0;
        }

        void step() {
            while (next < tape.length && isBlank(tape.at(next))) {
                next++;
            }
            start = next;
            value = 0;
            int first = tape.at(start);
            if (first == NONE) {
                token = END;
            } else if (isLetter(first)) {
                token = word();
            } else if (isDigit(first)) {
                token = number();
            } else {
                token = sign(first);
            }
        }

        private static boolean isBlank(int c) {
            return c == 9 || c == 10 || c == 13 || c == 32;
        }

        private static boolean isLetter(int c) {
            return c >= 'a' && c <= 'z';
        }

        private static boolean isDigit(int c) {
            return c >= '0' && c <= '9';
        }

        private int word() {
            while (next < tape.length && isLetter(tape.at(next))) {
                next++;
            }
            if (next - start > LETTERS_MOST) {
                return NO_TOKEN;
            }
            int variable = variable();
            return variable == NONE ? keyword() : FIRST_VARIABLE + variable;
        }

        private int variable() {
            if (spells("hands")) return HANDS;
            if (spells("widow")) return WIDOW;
            if (spells("load")) return LOAD;
            if (spells("money")) return MONEY;
            if (spells("kind")) return KIND;
            if (spells("worth")) return WORTH;
            if (spells("slices")) return SLICES;
            if (spells("season")) return SEASON;
            return NONE;
        }

        // No text goes on with any other word, so that one may count as no token.
        private int keyword() {
            if (spells("give")) return GIVE;
            if (spells("bar")) return BAR;
            if (spells("pay")) return PAY;
            if (spells("if")) return IF;
            if (spells("and")) return AND;
            if (spells("or")) return OR;
            return NO_TOKEN;
        }

        private boolean spells(String name) {
            if (name.length() != next - start) {
                return false;
            }
            for (int i = 0; i < name.length(); i++) {
                if (name.charAt(i) != tape.at(start + i)) {
                    return false;
                }
            }
            return true;
        }

        private int number() {
            while (next < tape.length && isDigit(tape.at(next))) {
                value = value * 10 + tape.at(next) - '0';
                next++;
            }
            return next - start > DIGITS_MOST ? NO_TOKEN : NUMBER;
        }

        private int sign(int first) {
            next++;
            switch (first) {
                case ';': return SEMICOLON;
                case '+': return PLUS;
                case '-': return MINUS;
                case '*': return TIMES;
                case '(': return OPENING;
                case ')': return CLOSING;
                case '=': return tookEqualSign() ? EQUAL : NO_TOKEN;
                case '!': return tookEqualSign() ? UNEQUAL : NO_TOKEN;
                case '<': return tookEqualSign() ? LESS_EQUAL : LESS;
                default: return NO_TOKEN;
            }
        }

        private boolean tookEqualSign() {
            boolean there = tape.at(next) == '=';
            if (there) {
                next++;
            }
            return there;
        }
    }

    /**
     * Tells of each token whether a text goes on with it. Only brackets nest, so a state, the side
     * of the rule and the count of open brackets are all that it has to remember.
     */
    private static final class Parser {
        private static final int AT_RULE = 0;
        private static final int AT_UNIT = 1;
        private static final int BEHIND_UNIT = 2;

        private static final int HEAD = 0;
        private static final int LEFT = 1;
        private static final int RIGHT = 2;

        private final Scanner scanner;
        private int state = AT_RULE;
        private int side = HEAD;
        private int open = 0;

        Parser(Tape tape) {
            scanner = new Scanner(tape);
        }

        int parseInto(Rules rules) {
            rules.clear();
            scanner.restart();
            state = AT_RULE;
            open = 0;
            for (int i = 0; i <= TOKENS_MOST; i++) {
                scanner.step();
                int token = scanner.token;
                if (token == END && state == AT_RULE) {
                    return NO_FAULT;
                }
                if (!goesOnWith(token)) {
                    return SYNTAX_FAULT;
                }
                if (lacksRoomFor(token, rules)) {
                    return ROOM_FAULT;
                }
                if (state == AT_RULE) {
                    rules.beginRule();
                }
                rules.addToken(token, scanner.value);
                moveBehind(token);
            }
            return ROOM_FAULT;
        }

        int reached() {
            return scanner.start;
        }

        private boolean goesOnWith(int token) {
            if (state == AT_RULE) {
                return token == GIVE || token == BAR || token == PAY;
            }
            if (state == AT_UNIT) {
                return token == NUMBER || token == OPENING || token >= FIRST_VARIABLE;
            }
            if (token == PLUS || token == MINUS || token == TIMES) {
                return true;
            }
            return open > 0 ? token == CLOSING : goesOnBehindSide(token);
        }

        private boolean goesOnBehindSide(int token) {
            if (side == HEAD) {
                return token == IF || token == SEMICOLON;
            }
            if (side == LEFT) {
                return token == EQUAL || token == UNEQUAL || token == LESS || token == LESS_EQUAL;
            }
            return token == AND || token == OR || token == SEMICOLON;
        }

        private boolean lacksRoomFor(int token, Rules rules) {
            return rules.tokens >= TOKENS_MOST
                    || (state == AT_RULE && rules.count >= RULES_MOST)
                    || (token == OPENING && open >= NESTING_MOST);
        }

        private void moveBehind(int token) {
            switch (token) {
                case GIVE: case PAY:
                    side = HEAD;
                    state = AT_UNIT;
                    break;
                case BAR: case IF: case AND: case OR:
                    side = LEFT;
                    state = AT_UNIT;
                    break;
                case EQUAL: case UNEQUAL: case LESS: case LESS_EQUAL:
                    side = RIGHT;
                    state = AT_UNIT;
                    break;
                case PLUS: case MINUS: case TIMES:
                    state = AT_UNIT;
                    break;
                case OPENING:
                    open++;
                    break;
                case CLOSING:
                    open--;
                    break;
                case SEMICOLON:
                    state = AT_RULE;
                    break;
                default:
                    state = BEHIND_UNIT;
                    break;
            }
        }
    }

    /** The rules of one text, kept as its tokens, and what they say of given facts. */
    private static final class Rules {
        private int count = 0;
        private final int[] start = new int[RULES_MOST];
        private int tokens = 0;
        private final int[] token = new int[TOKENS_MOST];
        private final int[] value = new int[TOKENS_MOST];

        private int at = 0;
        // For each level of brackets the sum so far, and the part that is still being multiplied.
        private final int[] sum = new int[NESTING_MOST + 1];
        private final int[] part = new int[NESTING_MOST + 1];

        void clear() {
            count = 0;
            tokens = 0;
        }

        void beginRule() {
            if (count < RULES_MOST) {
                start[count] = tokens;
                count++;
            }
        }

        void addToken(int newToken, int newValue) {
            if (tokens < TOKENS_MOST) {
                token[tokens] = newToken;
                value[tokens] = newValue;
                tokens++;
            }
        }

        int firstValue(int sort, int[] facts) {
            for (int r = 0; r < count; r++) {
                at = start[r];
                if (takeToken() == sort) {
                    int result = expression(facts);
                    if (takeToken() != IF || condition(facts)) {
                        return result;
                    }
                }
            }
            return 0;
        }

        boolean bars(int[] facts) {
            for (int r = 0; r < count; r++) {
                at = start[r];
                if (takeToken() == BAR && condition(facts)) {
                    return true;
                }
            }
            return false;
        }

        private int takeToken() {
            if (at < 0 || at >= tokens) {
                return END;
            }
            at++;
            return token[at - 1];
        }

        private boolean condition(int[] facts) {
            boolean any = false;
            boolean all = true;
            for (int i = 0; i < TOKENS_MOST; i++) {
                boolean holds = relation(facts);
                all = all && holds;
                int join = takeToken();
                if (join == OR) {
                    any = any || all;
                    all = true;
                } else if (join != AND) {
                    break;
                }
            }
            return any || all;
        }

        private boolean relation(int[] facts) {
            int left = expression(facts);
            int sign = takeToken();
            int right = expression(facts);
            switch (sign) {
                case EQUAL: return left == right;
                case UNEQUAL: return left != right;
                case LESS: return left < right;
                case LESS_EQUAL: return left <= right;
                default: return false;
            }
        }

        // A minus is the part's first factor -1, which is the same in ints that wrap.
        private int expression(int[] facts) {
            int level = 0;
            beginSum(level);
            boolean within = true;
            while (within && at < tokens) {
                switch (token[at]) {
                    case PLUS:
                        beginPart(level, 1);
                        break;
                    case MINUS:
                        beginPart(level, -1);
                        break;
                    case TIMES:
                        break;
                    case OPENING:
                        level = Math.min(level + 1, NESTING_MOST);
                        beginSum(level);
                        break;
                    case CLOSING:
                        int inner = sum[level] + part[level];
                        level = Math.max(level - 1, 0);
                        part[level] *= inner;
                        break;
                    default:
                        within = isFactor(token[at]);
                        part[level] *= within ? factor(at, facts) : 1;
                        break;
                }
                at += within ? 1 : 0;
            }
            return sum[0] + part[0];
        }

        private void beginSum(int level) {
            sum[level] = 0;
            part[level] = 1;
        }

        private void beginPart(int level, int sign) {
            sum[level] += part[level];
            part[level] = sign;
        }

        private static boolean isFactor(int token) {
            return token == NUMBER || token >= FIRST_VARIABLE;
        }

        private int factor(int i, int[] facts) {
            int variable = token[i] - FIRST_VARIABLE;
            return variable >= 0 && variable < facts.length ? facts[variable] : value[i];
        }
    }

    private static final class Kinds {
        private int count = 0;
        private final int[] width = new int[KINDS_MOST];
        private final int[] slices = new int[KINDS_MOST];
        private final int[] worth = new int[KINDS_MOST];

        boolean has(int kind) {
            return kind >= 0 && kind < count;
        }

        int add(int newWidth, int newSlices, int newWorth) {
            if (count >= KINDS_MOST) {
                return NONE;
            }
            width[count] = newWidth;
            slices[count] = newSlices;
            worth[count] = newWorth;
            count++;
            return count - 1;
        }
    }

    /** The families, the patterns that they own or have lent, and how much they carved. */
    private static final class Families {
        private int count = 0;
        private final int[] hands = new int[FAMILIES_MOST];
        private final boolean[] widow = new boolean[FAMILIES_MOST];
        private final int[] money = new int[FAMILIES_MOST];
        private final boolean[] owned = new boolean[FAMILIES_MOST * KINDS_MOST];
        // Bit s: lent in season s. The past stays, for it may still be asked.
        private final long[] lentSeasons = new long[FAMILIES_MOST * KINDS_MOST];
        private int lendings = 0;
        private final int[] carved = new int[FAMILIES_MOST * SEASONS];

        boolean has(int family) {
            return family >= 0 && family < count;
        }

        int add(int newHands, boolean newWidow) {
            if (count >= FAMILIES_MOST) {
                return NONE;
            }
            hands[count] = newHands;
            widow[count] = newWidow;
            count++;
            return count - 1;
        }

        boolean owns(int family, int kind) {
            return owned[family * KINDS_MOST + kind];
        }

        void makeOwner(int family, int kind) {
            owned[family * KINDS_MOST + kind] = true;
        }

        boolean addLending(int to, int kind, int from, int until) {
            if (lendings >= LENDINGS_MOST) {
                return false;
            }
            lendings++;
            lentSeasons[to * KINDS_MOST + kind] |= (1L << until) - (1L << from);
            return true;
        }

        boolean mayCarve(int family, int kind, int season) {
            int pattern = family * KINDS_MOST + kind;
            return owned[pattern] || ((lentSeasons[pattern] >>> season) & 1) != 0;
        }

        /** Bit k: some family may carve kind k. */
        int carvable(int season) {
            int bits = 0;
            for (int family = 0; family < count; family++) {
                for (int kind = 0; kind < KINDS_MOST; kind++) {
                    if (mayCarve(family, kind, season)) {
                        bits |= 1 << kind;
                    }
                }
            }
            return bits;
        }

        int carvedIn(int family, int season) {
            return carved[family * SEASONS + season];
        }

        void addCarved(int family, int season, int many) {
            carved[family * SEASONS + season] += many;
        }
    }

    /** Finds the best way to cut a log, from its last unit to its first. */
    private static final class Cutter {
        private final Kinds kinds;
        // Of the best way for the rest of the log from a unit on; a log's end has worth 0, no rings.
        private final int[] bestWorth = new int[LENGTH_MOST + 1];
        private final int[] fewestRings = new int[LENGTH_MOST + 1];
        private final int[] choice = new int[LENGTH_MOST + 1];

        Cutter(Kinds kinds) {
            this.kinds = kinds;
        }

        void cut(int length, long flaws, int carvable) {
            bestWorth[length] = 0;
            fewestRings[length] = 0;
            for (int unit = length - 1; unit >= 0; unit--) {
                leaveOut(unit);
                // The lesser kind comes last, for of equal ways the latest stays.
                for (int kind = kinds.count - 1; kind >= 0; kind--) {
                    boolean may = ((carvable >> kind) & 1) != 0;
                    if (may && fits(kind, unit, length, flaws)) {
                        tryRing(unit, kind);
                    }
                }
            }
        }

        int ringsOfBest() {
            return fewestRings[0];
        }

        int choiceAt(int unit) {
            return choice[unit];
        }

        private boolean fits(int kind, int unit, int length, long flaws) {
            int width = kinds.width[kind];
            long taken = ((1L << width) - 1) << unit;
            return unit + width <= length && (flaws & taken) == 0;
        }

        private void leaveOut(int unit) {
            bestWorth[unit] = bestWorth[unit + 1];
            fewestRings[unit] = fewestRings[unit + 1];
            choice[unit] = NONE;
        }

        private void tryRing(int unit, int kind) {
            int behind = unit + kinds.width[kind];
            int worth = bestWorth[behind] + kinds.slices[kind] * kinds.worth[kind];
            int rings = fewestRings[behind] + 1;
            boolean more = worth > bestWorth[unit];
            if (more || (worth == bestWorth[unit] && rings <= fewestRings[unit])) {
                bestWorth[unit] = worth;
                fewestRings[unit] = rings;
                choice[unit] = kind;
            }
        }
    }

    /** The logs and the rings that were cut of them. */
    private static final class Rings {
        private int logs = 0;
        private final int[] wasted = new int[LOGS_MOST];
        private int count = 0;
        private final int[] log = new int[RINGS_MOST];
        private final int[] unit = new int[RINGS_MOST];
        private final int[] kind = new int[RINGS_MOST];
        private final int[] family = new int[RINGS_MOST];
        private final int[] firstFigure = new int[RINGS_MOST];

        boolean has(int ring) {
            return ring >= 0 && ring < count;
        }

        int addLog() {
            if (logs >= LOGS_MOST) {
                return NONE;
            }
            logs++;
            return logs - 1;
        }

        void add(int newLog, int newUnit, int newKind) {
            if (count < RINGS_MOST) {
                log[count] = newLog;
                unit[count] = newUnit;
                kind[count] = newKind;
                family[count] = NONE;
                firstFigure[count] = NONE;
                count++;
            }
        }

        int waiting() {
            int many = 0;
            for (int r = 0; r < count; r++) {
                if (family[r] == NONE) {
                    many++;
                }
            }
            return many;
        }
    }

    /** The figures, and the lots of paint that they may bear. */
    private static final class Figures {
        private final Rings rings;
        private int count = 0;
        private final int[] ring = new int[FIGURES_MOST];
        private final int[] season = new int[FIGURES_MOST];
        private final int[] lot = new int[FIGURES_MOST];
        private final int[] order = new int[FIGURES_MOST];
        private final int[] pay = new int[FIGURES_MOST];
        private int lots = 0;
        private final int[] colour = new int[LOTS_MOST];

        Figures(Rings rings) {
            this.rings = rings;
        }

        boolean has(int figure) {
            return figure >= 0 && figure < count;
        }

        void add(int newRing, int newSeason) {
            if (count < FIGURES_MOST) {
                ring[count] = newRing;
                season[count] = newSeason;
                lot[count] = NONE;
                order[count] = NONE;
                pay[count] = 0;
                count++;
            }
        }

        int kindOf(int figure) {
            return rings.kind[ring[figure]];
        }

        int familyOf(int figure) {
            return rings.family[ring[figure]];
        }

        int colourOf(int figure) {
            return lot[figure] == NONE ? NONE : colour[lot[figure]];
        }

        boolean isFree(int figure, int kind) {
            return order[figure] == NONE && kindOf(figure) == kind;
        }

        int boxed() {
            int many = 0;
            for (int f = 0; f < count; f++) {
                if (order[f] != NONE) {
                    many++;
                }
            }
            return many;
        }

        boolean hasLot(int number) {
            return number >= 0 && number < lots;
        }

        int addLot(int newColour) {
            if (lots >= LOTS_MOST) {
                return NONE;
            }
            colour[lots] = newColour;
            lots++;
            return lots - 1;
        }

        boolean isLotInBoxOf(int number, int ofOrder) {
            for (int f = 0; f < count; f++) {
                if (lot[f] == number && order[f] == ofOrder) {
                    return true;
                }
            }
            return false;
        }
    }

    /** The orders and their needs. A set of orders is an int: bit o is order o. */
    private static final class Orders {
        private int count = 0;
        private final int[] worth = new int[ORDERS_MOST];
        private final int[] state = new int[ORDERS_MOST];
        private final int[] season = new int[ORDERS_MOST];
        private final int[] needs = new int[ORDERS_MOST];
        // Of need n of order o at o * NEEDS_MOST + n.
        private final int[] many = new int[ORDERS_MOST * NEEDS_MOST];
        private final int[] kind = new int[ORDERS_MOST * NEEDS_MOST];
        private final int[] colour = new int[ORDERS_MOST * NEEDS_MOST];

        static boolean isIn(int set, int order) {
            return order >= 0 && order < ORDERS_MOST && ((set >> order) & 1) != 0;
        }

        boolean has(int order) {
            return order >= 0 && order < count;
        }

        int add(int newWorth) {
            if (count >= ORDERS_MOST) {
                return NONE;
            }
            worth[count] = newWorth;
            state[count] = ORDER_OPEN;
            season[count] = NONE;
            needs[count] = 0;
            count++;
            return count - 1;
        }

        int addNeed(int order, int newMany, int newKind, int newColour) {
            if (needs[order] >= NEEDS_MOST) {
                return NONE;
            }
            int row = order * NEEDS_MOST + needs[order];
            many[row] = newMany;
            kind[row] = newKind;
            colour[row] = newColour;
            needs[order]++;
            return needs[order] - 1;
        }

        int figuresNeeded(int order) {
            int all = 0;
            for (int n = 0; n < needs[order]; n++) {
                all += many[order * NEEDS_MOST + n];
            }
            return all;
        }

        int openOnes() {
            int set = 0;
            for (int o = 0; o < count; o++) {
                if (state[o] == ORDER_OPEN) {
                    set |= 1 << o;
                }
            }
            return set;
        }

        int worthOf(int set) {
            int all = 0;
            for (int o = 0; o < count; o++) {
                if (isIn(set, o)) {
                    all += worth[o];
                }
            }
            return all;
        }

        void markBoxed(int set, int now) {
            for (int o = 0; o < count; o++) {
                if (isIn(set, o)) {
                    state[o] = ORDER_BOXED;
                    season[o] = now;
                }
            }
        }
    }

    /** Chooses the orders that go out, and the figures that fill them. */
    private static final class Boxing {
        // The colours, and ahead of them: not painted in the supply, any in the demand.
        private static final int SHADES = COLOURS + 1;

        private final Orders orders;
        private final Figures figures;
        private final int[] supply = new int[KINDS_MOST * SHADES];
        private final int[] demand = new int[KINDS_MOST * SHADES];

        Boxing(Orders orders, Figures figures) {
            this.orders = orders;
            this.figures = figures;
        }

        int bestSet() {
            countSupply();
            int open = orders.openOnes();
            int best = 0;
            for (int set = 1; set <= open; set++) {
                boolean allOpen = (set & ~open) == 0;
                if (allOpen && isAhead(set, best) && canFill(set)) {
                    best = set;
                }
            }
            return best;
        }

        // The needs of a colour come first: one of any could take what only they can use.
        void fill(int set) {
            fillNeeds(set, false);
            fillNeeds(set, true);
        }

        private void countSupply() {
            clear(supply);
            for (int f = 0; f < figures.count; f++) {
                if (figures.order[f] == NONE) {
                    supply[row(figures.kindOf(f), figures.colourOf(f))]++;
                }
            }
        }

        private boolean isAhead(int set, int other) {
            int moreWorth = orders.worthOf(set) - orders.worthOf(other);
            if (moreWorth != 0) {
                return moreWorth > 0;
            }
            int moreOrders = Integer.bitCount(set) - Integer.bitCount(other);
            if (moreOrders != 0) {
                return moreOrders > 0;
            }
            int inOne = set ^ other;
            int least = inOne & -inOne;
            return (set & least) != 0;
        }

        private boolean canFill(int set) {
            countDemand(set);
            for (int kind = 0; kind < KINDS_MOST; kind++) {
                int left = supply[row(kind, NONE)] - demand[row(kind, NONE)];
                for (int colour = 0; colour < COLOURS; colour++) {
                    int leftOfColour = supply[row(kind, colour)] - demand[row(kind, colour)];
                    if (leftOfColour < 0) {
                        return false;
                    }
                    left += leftOfColour;
                }
                if (left < 0) {
                    return false;
                }
            }
            return true;
        }

        private void countDemand(int set) {
            clear(demand);
            for (int o = 0; o < orders.count; o++) {
                if (Orders.isIn(set, o)) {
                    for (int n = 0; n < orders.needs[o]; n++) {
                        int need = o * NEEDS_MOST + n;
                        demand[row(orders.kind[need], orders.colour[need])] += orders.many[need];
                    }
                }
            }
        }

        private void fillNeeds(int set, boolean ofAny) {
            for (int o = 0; o < orders.count; o++) {
                if (Orders.isIn(set, o)) {
                    for (int n = 0; n < orders.needs[o]; n++) {
                        int need = o * NEEDS_MOST + n;
                        if ((orders.colour[need] == NONE) == ofAny) {
                            fillNeed(o, need);
                        }
                    }
                }
            }
        }

        private void fillNeed(int order, int need) {
            int colour = orders.colour[need];
            int missing = orders.many[need];
            for (int f = 0; f < figures.count && missing > 0; f++) {
                boolean suits = colour == NONE || figures.colourOf(f) == colour;
                if (suits && figures.isFree(f, orders.kind[need])) {
                    figures.order[f] = order;
                    missing--;
                }
            }
        }

        private static int row(int kind, int colour) {
            return kind * SHADES + colour + 1;
        }

        private static void clear(int[] counts) {
            for (int i = 0; i < counts.length; i++) {
                counts[i] = 0;
            }
        }
    }
}
