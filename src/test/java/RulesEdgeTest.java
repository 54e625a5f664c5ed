/** The edges that the second part of the Terms names: RULES, CONDITIONS and their FAULTS, ANSWERS, GROUNDS. */
public final class RulesEdgeTest {
    private static final int BAD = -1, NOT = -2, FULL = -3;
    private static final Checks CHECKS = new Checks();

    private static AccessLattice x = new AccessLattice();

    private static void start(String sentence) {
        CHECKS.sentence(sentence);
        x = new AccessLattice();
    }

    private static void due(int want, int got) {
        CHECKS.due(want, got);
    }

    public static void main(String[] args) {
        rulesMost();
        numbersStay();
        kindsAndDeep();
        eachAct();
        deep();
        fromAndTo();
        forEver();
        lastTicks();
        usesOnlyByWhatDecides();
        usesNoneLeft();
        usesAnew();
        usesOfLooking();
        tapeMost();
        longestConditions();
        emptyCondition();
        numbersInTexts();
        attributesInTexts();
        openMost();
        openAgain();
        faultsOfTheFirstByte();
        faultsInside();
        faultsOfTheEnd();
        strangeBytes();
        binding();
        comparisons();
        logic();
        wrapping();
        givenNumbers();
        denyAheadOfGrant();
        groundsOfNone();
        groundsOfTheLatest();
        groundsFewest();
        groundsOfTheAssigned();
        groundsOfLoans();
        groundsLongest();
        CHECKS.close();
    }

    private static void rulesMost() {
        start("RULES (30 at most, numbered as they come).");
        x.assign(3, 19, 1);
        for (int i = 0; i < 30; i++) {
            due(i, x.rule(i == 29 ? 119 : i % 20, 128, 115, i, -1));
            due(i + 1, x.count(0));
        }
        due(FULL, x.rule(0, 1, 0, 0, -1));
        x.step(29);
        due(2, x.may(3, 7, 15));
        due(29, x.why(0, 1));
        due(29, x.off(29));
        due(FULL, x.rule(0, 1, 0, 0, -1));
        due(1, x.may(3, 7, 15));
        due(19, x.why(0, 1));
        for (int i = 0; i < 29; i++) {
            due(28 - i, x.off(i));
        }
        due(FULL, x.rule(0, 1, 0, 0, -1));
        due(0, x.count(0));
    }

    private static void numbersStay() {
        start("those taken off keep their numbers, none comes in their place.");
        due(0, x.rule(0, 1, 0, 0, -1));
        due(0, x.off(0));
        due(1, x.rule(0, 2, 0, 0, -1));
        due(2, x.rule(0, 4, 0, 0, -1));
        due(1, x.off(1));
        due(3, x.rule(0, 8, 0, 0, -1));
        due(BAD, x.of(0, 2));
        due(BAD, x.of(1, 2));
        due(4, x.of(2, 2));
        due(8, x.of(3, 2));
        due(BAD, x.of(4, 2));
        due(2, x.count(0));
    }

    private static void kindsAndDeep() {
        start("role: 100 times the KIND, and the ROLE; thing: 100 times DEEP, and the THING.");
        int[][] taken = {{0, 0}, {19, 15}, {100, 100}, {119, 115}, {0, 115}, {119, 0}};
        for (int i = 0; i < taken.length; i++) {
            int role = taken[i][0];
            int thing = taken[i][1];
            due(i, x.rule(role, 1, thing, 0, -1));
            due(role / 100, x.of(i, 0));
            due(role % 100, x.of(i, 1));
            due(thing % 100, x.of(i, 3));
            due(thing / 100, x.of(i, 4));
        }
        for (int wrong : new int[] {-100, -1, 20, 99, 120, 199, 200, 219, 300}) {
            due(BAD, x.rule(wrong, 1, 0, 0, -1));
        }
        for (int wrong : new int[] {-100, -1, 16, 99, 116, 199, 200, 215, 300}) {
            due(BAD, x.rule(0, 1, wrong, 0, -1));
        }
        due(6, x.count(0));
    }

    private static void eachAct() {
        start("ACTS (bits, not 0).");
        x.assign(0, 0, 1);
        due(BAD, x.rule(0, 0, 0, 0, -1));
        due(BAD, x.rule(0, 256, 0, 0, -1));
        due(BAD, x.rule(0, 511, 0, 0, -1));
        for (int act = 0; act < 8; act++) {
            due(act, x.rule(0, 1 << act, act, 0, -1));
        }
        due(8, x.rule(0, 255, 8, 0, -1));
        due(9, x.rule(0, 129, 9, 0, -1));
        for (int act = 0; act < 8; act++) {
            due(1 << act | 256 | (act == 0 || act == 7 ? 512 : 0), x.where(0, act));
        }
    }

    private static void deep() {
        start("DEEP (1: what is BELOW it, too).");
        x.within(1, 0);
        x.within(2, 1);
        x.within(3, 0);
        x.assign(0, 0, 1);
        x.assign(1, 1, 1);
        x.rule(0, 1, 1, 0, -1);
        x.rule(1, 1, 101, 0, -1);
        due(2, x.where(0, 0));
        due(6, x.where(1, 0));
        x.within(2, 3);
        due(2, x.where(1, 0));
        x.within(3, 1);
        due(14, x.where(1, 0));
        due(2, x.where(0, 0));
    }

    private static void fromAndTo() {
        start("FROM and TO (it holds while NOW is FROM or more and below TO).");
        x.assign(0, 0, 1);
        due(BAD, x.rule(0, 1, 0, 5, 5));
        due(BAD, x.rule(0, 1, 0, 5, 4));
        due(BAD, x.rule(0, 1, 0, 5, 0));
        due(0, x.rule(0, 1, 0, 5, 6));
        due(1, x.rule(0, 2, 0, 5, 8));
        due(2, x.rule(0, 4, 0, 0, 5));
        due(1, x.may(0, 2, 0));
        x.step(4);
        due(0, x.may(0, 0, 0));
        due(0, x.may(0, 1, 0));
        due(1, x.may(0, 2, 0));
        x.step(1);
        due(1, x.may(0, 0, 0));
        due(1, x.may(0, 1, 0));
        due(0, x.may(0, 2, 0));
        x.step(1);
        due(0, x.may(0, 0, 0));
        due(1, x.may(0, 1, 0));
        x.step(1);
        due(1, x.may(0, 1, 0));
        x.step(1);
        due(0, x.may(0, 1, 0));
    }

    private static void forEver() {
        start("TO -1: for ever.");
        x.assign(0, 0, 1);
        due(0, x.rule(0, 1, 0, 0, -1));
        due(BAD, x.rule(0, 1, 0, 0, -2));
        due(BAD, x.rule(0, 1, 0, 0, Integer.MIN_VALUE));
        due(-1, x.of(0, 6));
        due(1, x.may(0, 0, 0));
        due(NOT, x.until(0, 0, 0));
        for (int i = 0; i < 19; i++) {
            x.step(500);
        }
        due(9999, x.step(499));
        due(1, x.may(0, 0, 0));
        due(NOT, x.until(0, 0, 0));
    }

    private static void lastTicks() {
        start("FROM 0 .. 9999, TO above FROM or -1.");
        x.assign(0, 0, 1);
        due(BAD, x.rule(0, 1, 0, -1, -1));
        due(BAD, x.rule(0, 1, 0, 10000, -1));
        due(BAD, x.rule(0, 1, 0, 10000, 10001));
        due(0, x.rule(0, 1, 0, 9999, -1));
        due(1, x.rule(0, 2, 0, 9999, 10000));
        due(2, x.rule(0, 4, 0, 0, 9999));
        due(3, x.rule(0, 8, 0, 9998, Integer.MAX_VALUE));
        due(Integer.MAX_VALUE, x.of(3, 6));
        for (int i = 0; i < 19; i++) {
            x.step(500);
        }
        x.step(498);
        due(0, x.may(0, 0, 0) + x.may(0, 1, 0));
        due(2, x.may(0, 2, 0) + x.may(0, 3, 0));
        due(9999, x.step(1));
        due(2, x.may(0, 0, 0) + x.may(0, 1, 0));
        due(0, x.may(0, 2, 0));
        due(1, x.may(0, 3, 0));
    }

    private static void usesOnlyByWhatDecides() {
        start("by each may() that it decides it has one less.");
        x.assign(0, 0, 1);
        x.rule(0, 3, 0, 0, -1);
        x.rule(0, 3, 0, 0, -1);
        x.rule(100, 2, 0, 0, -1);
        for (int i = 0; i < 3; i++) {
            due(1, x.uses(i, 99));
        }
        due(1, x.may(0, 0, 0));
        due(2, x.may(0, 1, 0));
        due(0, x.may(1, 0, 0));
        due(0, x.may(0, 2, 0));
        due(BAD, x.may(0, 8, 0));
        due(98, x.left(0));
        due(99, x.left(1));
        due(98, x.left(2));
    }

    private static void usesNoneLeft() {
        start("with none left it APPLIES no more.");
        x.assign(0, 0, 1);
        x.rule(0, 1, 0, 0, -1);
        x.rule(0, 1, 0, 0, -1);
        x.rule(100, 1, 0, 0, -1);
        x.uses(0, 1);
        x.uses(1, 2);
        x.uses(2, 1);
        int[] answers = {2, 1, 1, 1, 0, 0};
        int[] rules = {2, 0, 1, 1, -1, -1};
        for (int i = 0; i < answers.length; i++) {
            due(answers[i], x.may(0, 0, 0));
            due(rules[i], x.book(i, 5));
        }
        for (int i = 0; i < 3; i++) {
            due(0, x.left(i));
        }
        due(3, x.count(0));
        due(0, x.who(0, 0, 0) + x.who(0, 0, 1) + x.where(0, 0) + x.could(0, 0, 200));
        due(NOT, x.least(0, 0, 0, -1));
        due(0, x.decides(0, 0));
    }

    private static void usesAnew() {
        start("USES of a RULE become n (1 .. 99), -1: none are told.");
        x.assign(0, 0, 1);
        x.rule(0, 1, 0, 0, -1);
        due(NOT, x.left(0));
        due(1, x.uses(0, -1));
        due(NOT, x.left(0));
        due(1, x.uses(0, 1));
        due(1, x.may(0, 0, 0));
        due(0, x.may(0, 0, 0));
        for (int wrong : new int[] {0, -2, 100, Integer.MIN_VALUE, Integer.MAX_VALUE}) {
            due(BAD, x.uses(0, wrong));
            due(0, x.left(0));
        }
        due(1, x.uses(0, 99));
        for (int i = 98; i >= 0; i--) {
            due(1, x.may(0, 0, 0));
            due(i, x.left(0));
        }
        due(0, x.may(0, 0, 0));
        due(1, x.uses(0, -1));
        due(1, x.may(0, 0, 0));
        due(NOT, x.left(0));
    }

    private static void usesOfLooking() {
        start("what is just looked at, uses none.");
        x.assign(0, 0, 1);
        x.rule(0, 255, 100, 0, 50);
        x.uses(0, 1);
        due(1, x.who(0, 0, 0));
        due(0, x.who(0, 0, 1));
        due(1, x.where(0, 0));
        due(1, x.could(0, 0, 200));
        due(0, x.least(0, 0, 0, -1));
        due(50, x.until(0, 0, 0));
        due(1, x.lose(0, 0, 0, -1));
        due(1, x.changes(0, 0, 0, -1));
        due(8, x.unlike(0, 1, -1));
        due(8, x.decides(0, 1));
        x.image();
        due(0, x.since(16));
        due(1, x.left(0));
        due(NOT, x.book(0, 0));
        due(0, x.count(6) + x.count(7) + x.count(8));
    }

    private static void tapeMost() {
        start("THE TAPE (80 bytes at most, no blanks).");
        for (int i = 1; i <= 80; i++) {
            due(i, x.feed(i == 1 ? 1 : 255));
        }
        due(FULL, x.feed('1'));
        due(BAD, x.feed(0));
        due(BAD, x.feed(256));
        due(80, x.count(5));
        due(-100, x.seniors());
        due(0, x.count(5));
        due(1, x.feed(255));
        for (String text : new String[] {" 1", "1 ", "1 +1", "1+ 1", "(1 )", "u 0", "1 2"}) {
            x.seniors();
            due(-100 - text.indexOf(' '), Calls.condition(x, text));
        }
    }

    private static void longestConditions() {
        start("TEXTS of 80 bytes.");
        x.assign(0, 0, 1);
        String sum = "1+".repeat(38) + "1=";
        due(0, Calls.condition(x, sum + "39"));
        due(1, x.may(0, 0, 0));
        x.off(0);
        due(1, Calls.condition(x, sum + "38"));
        due(0, x.may(0, 0, 0));
        due(2, Calls.condition(x, "1|".repeat(39) + "u0"));
        due(1, x.may(0, 0, 0));
        x.off(2);
        due(-180, Calls.condition(x, "1|".repeat(40)));
        due(-179, Calls.condition(x, "1|".repeat(39) + "1)"));
        due(-179, Calls.condition(x, "1|".repeat(39) + "4x"));
        due(3, Calls.condition(x, "((((((" + "2*".repeat(33) + "10" + "))))))"));
        due(0, x.may(0, 0, 0));
        due(4, Calls.condition(x, "0<1&".repeat(19) + "!0"));
        due(1, x.may(0, 0, 0));
    }

    private static void emptyCondition() {
        start("THE TAPE its CONDITION (empty: none), which is empty then.");
        x.assign(0, 0, 1);
        due(0, x.rule(0, 1, 0, 0, -1));
        due(0, x.of(0, 7));
        due(1, x.may(0, 0, 0));
        due(1, Calls.condition(x, "0"));
        due(1, x.of(1, 7));
        due(0, x.count(5));
        due(2, x.rule(0, 2, 0, 0, -1));
        due(0, x.of(2, 7));
        due(1, x.may(0, 1, 0));
    }

    /** The value of a TEXT for USER 0, ACT 1, THING 1 right below THING 0, NOW 4: it, and none beside it. */
    private static void value(String text, int value) {
        AccessLattice y = new AccessLattice();
        y.assign(0, 0, 1);
        y.within(1, 0);
        y.step(4);
        String[] wants = value < 0 ? new String[] {"0-" + -value, "0-" + (1 - value), "0-" + (-value - 1)}
                : new String[] {"" + value, "" + (value + 1), value + "-1"};
        for (int i = 0; i < wants.length; i++) {
            Calls.feed(y, text + "=" + wants[i]);
            int rule = y.rule(0, 2, 100, 0, -1);
            CHECKS.due(i, rule, text + " as a CONDITION");
            CHECKS.due(i == 0 ? 1 : 0, y.may(0, 1, 1), text + " = " + wants[i]);
            y.off(rule);
        }
    }

    private static void fault(int place, String text) {
        CHECKS.due(-100 - place, Calls.condition(x, text), text);
        due(0, x.count(5));
        due(0, x.count(0));
    }

    private static void numbersInTexts() {
        start("a number (1 to 3 figures).");
        value("0", 0);
        value("7", 7);
        value("00", 0);
        value("10", 10);
        value("099", 99);
        value("000", 0);
        value("998", 998);
        fault(3, "0000");
        fault(3, "1000");
        fault(5, "1+9999");
        fault(3, "999(");
        fault(1, "9u0");
        fault(2, "12n");
    }

    private static void attributesInTexts() {
        start("u or t and a figure 0 .. 3.");
        value("u0", 0);
        value("t3", 0);
        for (char side : new char[] {'u', 't'}) {
            fault(1, side + "");
            fault(1, side + "4");
            fault(1, side + "9");
            fault(1, side + "/");
            fault(1, side + "u");
            fault(1, side + "+1");
            fault(2, side + "01");
            fault(2, side + "3t3");
            fault(1, side + "(0)");
        }
        fault(0, "U0");
        fault(0, "T0");
        fault(0, "v0");
    }

    private static void openMost() {
        start("At most 6 of ! - ahead of a U, ( are open at once.");
        value("!!!!!!5", 1);
        value("------5", 5);
        value("((((((5))))))", 5);
        value("(-(-(-5)))", -5);
        value("!(!(!(5)))", 0);
        fault(6, "!!!!!!!5");
        fault(6, "-------5");
        fault(6, "(((((((5)))))))");
        fault(6, "!-(!-((5)))");
        fault(6, "((((((!5))))))");
        fault(6, "((((((-5))))))");
        fault(8, "((((((5*!5))))))");
        fault(8, "((((((5--5))))))");
        fault(8, "(1&!(-(!(!5))))");
        fault(6, "!!!!!!(");
        fault(6, "((((((");
        fault(7, "((((((5");
    }

    private static void openAgain() {
        start("open at once: what has ended is open no more.");
        value("!!!!!!5+!!!!!!0", 1);
        value("((((((5))))))*((((((2))))))", 10);
        value("------5-------2*!!!!!!1", 3);
        value("((((((5)*2)+1)-1)*2)-3)*!!!!!!2", 17);
        value("(((((-5)-(-5)))))+((((((2))))))", 2);
        value("!(!(!(0)))+!(!(!(0)))", 2);
        value("-(-(((5)))+(((!0))))", 4);
        fault(18, "((((((5)))))*(((((((1");
    }

    private static void faultsOfTheFirstByte() {
        start("the place (from 0) of the first byte with which no TEXT goes on.");
        for (String text : new String[] {")", "|", "&", "<", "=", ">", "+", "*", ",", ".", "x", "N", "A", "D", " ", "/", ":"}) {
            fault(0, text);
            fault(0, text + "1");
            fault(1, "(" + text);
            fault(1, "!" + text + "(((((((");
            fault(2, "1+" + text);
            fault(2, "1=" + text + "?");
        }
        for (String text : new String[] {"(", "!", "u", "t", "n", "a", "d", "x", " ", ",", ")", ".", "~"}) {
            fault(1, "d" + text);
            fault(2, "u3" + text + "1");
            fault(3, "1+n" + text);
        }
    }

    private static void faultsInside() {
        start("the first place that can't be so is the FAULT, whatever stands behind it.");
        fault(3, "1<1<1");
        fault(3, "1<1=1");
        fault(3, "1=1>1");
        fault(3, "1>1>(");
        fault(7, "1+1<2*1=1");
        fault(7, "(1=1)=1=1");
        fault(6, "1&(2<3<4)");
        fault(7, "1<2&1=2>3");
        fault(12, "1<2|(3=4)>5|<6");
        fault(3, "(1))(");
        fault(1, "1)");
        fault(4, "((1)");
        fault(1, "()");
        fault(2, "1-)");
        fault(2, "(!)");
        fault(2, "1||1");
        fault(2, "1&|1");
        fault(2, "1<=1");
        fault(2, "1>=1");
        fault(2, "1==1");
        fault(1, "1!=1");
        fault(2, "1*/1");
        value("(1<2&3<4|5<6)", 1);
    }

    private static void faultsOfTheEnd() {
        start("the length, if it ends too early.");
        for (String text : new String[] {"1+", "1|", "1&", "1<", "1=", "1>", "1-", "1*", "(", "!", "-", "u", "t", "1+u", "(1",
            "((1)", "!(", "!-(-", "1<2&", "!!!!!!", "------", "((((((", "((((((1)))))"}) {
            fault(text.length(), text);
        }
    }

    private static void strangeBytes() {
        start("A byte (1 .. 255): whatever it is.");
        for (int letter = 1; letter < 256; letter++) {
            boolean operator = "|&<=>+-*".indexOf(letter) >= 0;
            boolean figure = letter >= '0' && letter <= '9';
            x.feed('1');
            x.feed(letter);
            due(operator ? -102 : figure ? 0 : -101, x.rule(0, 1, 0, 0, -1));
            x = new AccessLattice();
            x.feed(letter);
            boolean whole = figure || "nad".indexOf(letter) >= 0;
            boolean begins = "ut!-(".indexOf(letter) >= 0;
            due(whole ? 0 : begins ? -101 : -100, x.rule(0, 1, 0, 0, -1));
            due(0, x.count(5));
            x = new AccessLattice();
        }
    }

    private static void binding() {
        start("E = A { | A }. A = C { & C }. S = P { + P, - P }. P = U { * U }.");
        value("2+3*4", 14);
        value("2*3+4", 10);
        value("(2+3)*4", 20);
        value("9-3-2", 4);
        value("9-(3-2)", 8);
        value("9-3+2", 8);
        value("2*3*4", 24);
        value("-2*3", -6);
        value("2*-3", -6);
        value("2--3", 5);
        value("2+-3", -1);
        value("-2+3", 1);
        value("!2+3", 3);
        value("!0*5", 5);
        value("-!0", -1);
        value("!-0", 1);
        value("1-1-1-1", -2);
        value("10-2*3-1", 3);
        value("(1|0&0)", 1);
        value("((1|0)&0)", 0);
        value("(0&0|1)", 1);
        value("(0|1=0|0)", 0);
        value("(1&1+1=2)", 1);
        value("(1+1=1+1)", 1);
        value("(2*2<2+2)", 0);
        value("(3-1>1)", 1);
        value("(3>1+5)", 0);
        value("(1-3<0)", 1);
    }

    private static void comparisons() {
        start("C = S, or S < S, S = S, S > S; < = > give 1, 0.");
        value("(1<2)", 1);
        value("(2<2)", 0);
        value("(3<2)", 0);
        value("(1=2)", 0);
        value("(2=2)", 1);
        value("(3=2)", 0);
        value("(1>2)", 0);
        value("(2>2)", 0);
        value("(3>2)", 1);
        value("(-5<-4)", 1);
        value("(-5>4)", 0);
        value("((1<2)<2)", 1);
        value("(1<2)+(3>2)+(1=1)", 3);
    }

    private static void logic() {
        start("| & ! give 1, 0; it holds, if it is not 0.");
        value("(0|0)", 0);
        value("(0|7)", 1);
        value("(7|0)", 1);
        value("(7|9)", 1);
        value("(-1|0)", 1);
        value("(0|-1)", 1);
        value("(0&0)", 0);
        value("(0&7)", 0);
        value("(7&0)", 0);
        value("(4&2)", 1);
        value("(-1&-1)", 1);
        value("(-1&2)", 1);
        value("(2&-1)", 1);
        value("!0", 1);
        value("!1", 0);
        value("!-1", 0);
        value("!7", 0);
        x.assign(0, 0, 1);
        String[] holding = {"1", "2", "999", "-1", "0-1", "1|0", "!0", "a+1"};
        String[] not = {"0", "-0", "1-1", "!5", "1&0", "a", "n"};
        for (String text : holding) {
            int rule = Calls.condition(x, text);
            CHECKS.due(1, x.may(0, 0, 0), text);
            x.off(rule);
        }
        for (String text : not) {
            Calls.condition(x, text);
            CHECKS.due(0, x.may(0, 0, 0), text);
        }
    }

    private static void wrapping() {
        start("Ints that wrap.");
        String two31 = "512*512*512*16";
        value("(" + two31 + "<0)", 1);
        value("(" + two31 + "-1>0)", 1);
        value("(-(" + two31 + ")<0)", 1);
        value("(-(" + two31 + ")=" + two31 + ")", 1);
        value(two31 + "*2", 0);
        value(two31 + "+" + two31, 0);
        value("0-" + two31 + "-" + two31, 0);
        value("512*512*512*32+5", 5);
        value("512*512*512*8*4-6", -6);
        value("(512*512*512*15+512*512*511>0)", 1);
        value("(" + two31 + "-1=0-1-" + two31 + ")", 1);
        value("!(" + two31 + ")", 0);
        value("(" + two31 + "&1)", 1);
    }

    private static void givenNumbers() {
        start("n NOW, a the ACT, d how many THINGS the one asked for lies below the RULE's (0: it is that).");
        value("n", 4);
        value("a", 1);
        value("d", 1);
        x.assign(0, 0, 1);
        x.within(1, 0);
        x.within(2, 1);
        Calls.feed(x, "d=0");
        due(0, x.rule(0, 1, 100, 0, -1));
        Calls.feed(x, "d=2");
        due(1, x.rule(0, 1, 100, 0, -1));
        Calls.feed(x, "d=1");
        due(2, x.rule(0, 2, 101, 0, -1));
        Calls.feed(x, "a=7");
        due(3, x.rule(0, 240, 105, 0, -1));
        Calls.feed(x, "n=999*10+9");
        due(4, x.rule(0, 255, 6, 0, -1));
        due(5, x.where(0, 0));
        due(4, x.where(0, 1));
        due(0, x.where(0, 6));
        due(32, x.where(0, 7));
        for (int i = 0; i < 19; i++) {
            x.step(500);
        }
        x.step(498);
        due(0, x.may(0, 3, 6));
        due(9999, x.step(1));
        due(1, x.may(0, 3, 6));
    }

    private static void denyAheadOfGrant() {
        start("ANSWER: DENIED (2), if a DENY APPLIES: by the first; else ALLOWED (1), if a GRANT does: by the first; else "
                + "NOTHING (0).");
        x.assign(0, 0, 1);
        due(0, x.may(0, 0, 0));
        due(-1, x.book(0, 5));
        x.rule(0, 1, 0, 0, -1);
        x.rule(0, 1, 0, 0, -1);
        due(1, x.may(0, 0, 0));
        due(0, x.book(1, 5));
        x.rule(100, 1, 0, 0, -1);
        x.rule(100, 1, 0, 0, -1);
        due(2, x.may(0, 0, 0));
        due(2, x.book(2, 5));
        x.off(2);
        due(2, x.may(0, 0, 0));
        due(3, x.book(3, 5));
        x.off(0);
        x.off(3);
        due(1, x.may(0, 0, 0));
        due(1, x.book(4, 5));
        x.off(1);
        due(0, x.may(0, 0, 0));
    }

    private static void grounds(int... want) {
        for (int i = 0; i < want.length; i++) {
            due(want[i], x.why(i / 2, i % 2));
        }
        due(NOT, x.why(want.length / 2, 0));
        due(NOT, x.why(want.length / 2, 1));
        due(NOT, x.why(Integer.MAX_VALUE, 0));
        due(BAD, x.why(-1, 0));
        due(BAD, x.why(0, 2));
        due(BAD, x.why(0, -1));
    }

    private static void groundsOfNone() {
        start("none ahead of any; none, if its ANSWER was NOTHING.");
        grounds();
        x.assign(0, 0, 1);
        due(BAD, x.may(0, 0, 16));
        grounds();
        due(0, x.may(0, 0, 0));
        grounds();
        x.rule(100, 1, 0, 0, -1);
        due(2, x.may(0, 0, 0));
        grounds(1, 0, 2, 0, 4, 0);
        due(0, x.may(0, 1, 0));
        grounds();
    }

    private static void groundsOfTheLatest() {
        start("why() tells of the latest may(); back() leaves what why() tells.");
        x.assign(15, 19, 1);
        x.rule(19, 1, 0, 0, -1);
        x.image();
        due(1, x.may(15, 0, 0));
        grounds(1, 0, 2, 19, 4, 15);
        due(BAD, x.may(16, 0, 0));
        x.who(0, 0, 0);
        x.could(0, 0, 9);
        x.lose(15, 0, 0, -1);
        grounds(1, 0, 2, 19, 4, 15);
        x.off(0);
        x.assign(15, 19, 0);
        x.step(9);
        grounds(1, 0, 2, 19, 4, 15);
        x.back();
        grounds(1, 0, 2, 19, 4, 15);
        due(0, x.may(0, 0, 0));
        x.back();
        grounds();
        due(NOT, x.book(0, 0));
    }

    private static void groundsFewest() {
        start("each but the first is directly SENIOR to the one ahead; the fewest there can be; of like ones the least "
                + "numbers, from the first on.");
        x.rule(0, 1, 0, 0, -1);
        Calls.pairs(x, "9>0,8>0,19>9,18>8,19>8");
        Calls.pairs(x, "1>2,2>0,17>1,17>19");
        x.assign(0, 17, 1);
        due(1, x.may(0, 0, 0));
        grounds(1, 0, 2, 0, 2, 2, 2, 1, 2, 17, 4, 0);
        x.senior(17, 1, 0);
        due(1, x.may(0, 0, 0));
        grounds(1, 0, 2, 0, 2, 8, 2, 19, 2, 17, 4, 0);
        x.assign(0, 18, 1);
        due(1, x.may(0, 0, 0));
        grounds(1, 0, 2, 0, 2, 8, 2, 18, 4, 0);
        x.assign(0, 19, 1);
        due(1, x.may(0, 0, 0));
        grounds(1, 0, 2, 0, 2, 8, 2, 18, 4, 0);
        x.assign(0, 1, 1);
        due(1, x.may(0, 0, 0));
        grounds(1, 0, 2, 0, 2, 2, 2, 1, 4, 0);
        x.assign(0, 9, 1);
        due(1, x.may(0, 0, 0));
        grounds(1, 0, 2, 0, 2, 9, 4, 0);
        x.assign(0, 0, 1);
        due(1, x.may(0, 0, 0));
        grounds(1, 0, 2, 0, 4, 0);
    }

    private static void groundsOfTheAssigned() {
        start("that is one which the USER is ASSIGNED, if there is such at all, else one of a LOAN to it that STANDS.");
        x.rule(0, 1, 0, 0, -1);
        Calls.pairs(x, "1>0,2>1,3>2");
        x.assign(1, 3, 1);
        x.lend(1, 0, 0, 50, 0);
        x.lend(1, 0, 2, 50, 0);
        x.assign(0, 3, 1);
        due(1, x.may(0, 0, 0));
        grounds(1, 0, 2, 0, 2, 1, 2, 2, 2, 3, 4, 0);
        x.assign(0, 3, 0);
        due(1, x.may(0, 0, 0));
        grounds(1, 0, 2, 0, 3, 0, 4, 1);
        x.takeBack(0);
        due(1, x.may(0, 0, 0));
        grounds(1, 0, 2, 0, 2, 1, 2, 2, 3, 1, 4, 1);
    }

    private static void groundsOfLoans() {
        start("3 the LOAN (of those of that ROLE the least), and then, as SOURCE has it: 3 LOANS, 4 the USER who lent the "
                + "last of them.");
        x.rule(0, 1, 0, 0, -1);
        x.senior(1, 0, 1);
        x.assign(15, 1, 1);
        x.lend(15, 1, 1, 4, 5);
        x.lend(15, 1, 1, 50, 5);
        x.lend(15, 1, 1, 50, 5);
        x.lend(15, 1, 1, 50, 5);
        due(1, x.may(1, 0, 0));
        grounds(1, 0, 2, 0, 2, 1, 3, 0, 4, 15);
        x.step(4);
        due(1, x.may(1, 0, 0));
        grounds(1, 0, 2, 0, 2, 1, 3, 1, 4, 15);
        x.takeBack(1);
        due(1, x.may(1, 0, 0));
        grounds(1, 0, 2, 0, 2, 1, 3, 2, 4, 15);
        x.lend(1, 2, 0, 50, 3);
        x.lend(15, 2, 0, 50, 3);
        due(1, x.may(2, 0, 0));
        grounds(1, 0, 2, 0, 3, 4, 3, 2, 4, 15);
        x.takeBack(4);
        due(1, x.may(2, 0, 0));
        grounds(1, 0, 2, 0, 3, 5, 4, 15);
    }

    private static void groundsLongest() {
        start("GROUNDS of an ANSWER: 1 the RULE; then 2 ROLES; then 3 LOANS, 4 the USER.");
        for (int i = 1; i < 20; i++) {
            x.senior(i, i - 1, 1);
        }
        x.rule(100, 1, 0, 0, -1);
        x.assign(0, 19, 1);
        for (int i = 0; i < 6; i++) {
            due(i, x.lend(i, i + 1, 19, 50, 5 - i));
        }
        due(2, x.may(6, 0, 0));
        int[] want = new int[56];
        want[0] = 1;
        for (int i = 0; i < 20; i++) {
            want[2 + 2 * i] = 2;
            want[3 + 2 * i] = i;
        }
        for (int i = 0; i < 6; i++) {
            want[42 + 2 * i] = 3;
            want[43 + 2 * i] = 5 - i;
        }
        want[54] = 4;
        grounds(want);
    }
}
