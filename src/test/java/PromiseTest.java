/** Each promise by itself: ordinary calls, the edges that the document names, wrong calls. */
public final class PromiseTest {
    private static final int BAD = -1, NOT = -2, FULL = -3, RING = -4, STATE = -5, EXCLUDED = -6;
    private static final int[] FAR = {Integer.MIN_VALUE, -1000000, -2, 1000000, Integer.MAX_VALUE};

    private static String promise = "";
    private static int wrong = 0;
    private static int checks = 0;
    private static AccessLattice x = new AccessLattice();

    private static void start(int number, String name) {
        promise = number + " " + name;
        x = new AccessLattice();
    }

    private static void due(int want, int got) {
        checks++;
        if (got != want) {
            wrong++;
            int line = 0;
            for (StackTraceElement frame : new Throwable().getStackTrace()) {
                if (line == 0 && !frame.getMethodName().equals("due")) {
                    line = frame.getLineNumber();
                }
            }
            System.out.println("promise " + promise + ", line " + line + ": " + got + ", due is " + want);
        }
    }

    private static void feed(String text) {
        for (int i = 0; i < text.length(); i++) {
            x.feed(text.charAt(i));
        }
    }

    private static int condition(String text) {
        feed(text);
        return x.rule(0, 1, 0, 0, -1);
    }

    /** Whether a CONDITION holds for USER 0, ACT 1, THING 1 within THING 0, NOW. */
    private static void value(String text, boolean holds) {
        feed(text);
        int rule = x.rule(0, 2, 100, 0, -1);
        due(1, rule >= 0 ? 1 : 0);
        due(holds ? 1 : 0, x.who(1, 1, 0) & 1);
        x.off(rule);
        if (rule >= 28) {
            x.back();
        }
    }

    private static int pairs(String text) {
        feed(text);
        return x.seniors();
    }

    private static void grounds(int... want) {
        for (int i = 0; i < want.length; i++) {
            due(want[i], x.why(i / 2, i % 2));
        }
        due(NOT, x.why(want.length / 2, 0));
        due(NOT, x.why(want.length / 2, 1));
        due(NOT, x.why(Integer.MAX_VALUE, 1));
    }

    public static void main(String[] args) {
        newObject();
        attribute();
        within();
        senior();
        assign();
        exclude();
        step();
        lend();
        takeBack();
        loan();
        holds();
        feedBytes();
        rule();
        ruleFaults();
        conditions();
        off();
        of();
        uses();
        seniors();
        may();
        why();
        who();
        where();
        could();
        least();
        leastExcluded();
        until();
        lose();
        changes();
        ways();
        idle();
        unlike();
        book();
        shadowed();
        clash();
        join();
        roles();
        level();
        chain();
        under();
        decides();
        since();
        image();
        count();
        System.out.println(wrong == 0 ? checks + " answers are as due" : wrong + " answers are not as due");
        if (wrong != 0) {
            System.exit(1);
        }
    }

    private static void newObject() {
        start(1, "new");
        for (int what = 0; what <= 8; what++) {
            due(0, x.count(what));
        }
        for (int i = 0; i < 16; i++) {
            due(0, x.holds(i, 0));
            due(0, x.attribute(0, i, i % 4, 0));
            due(0, x.attribute(1, i, i % 4, 0));
            due(-1, x.within(i, -1));
            due(0, x.may(i, i % 8, i));
        }
        due(BAD, x.of(0, 0));
        due(BAD, x.loan(0, 0));
        due(STATE, x.back());
        due(-1, AccessLattice.BAD);
        due(-2, AccessLattice.NOT);
        due(-3, AccessLattice.FULL);
        due(-4, AccessLattice.RING);
        due(-5, AccessLattice.STATE);
        due(-6, AccessLattice.EXCLUDED);
    }

    private static void attribute() {
        start(2, "attribute");
        due(0, x.attribute(0, 15, 3, 99));
        due(99, x.attribute(0, 15, 3, 5));
        due(0, x.attribute(1, 15, 3, 7));
        due(7, x.attribute(1, 15, 3, 0));
        due(5, x.attribute(0, 15, 3, 0));
        due(0, x.attribute(0, 0, 0, 1));
        due(BAD, x.attribute(2, 0, 0, 2));
        due(BAD, x.attribute(-1, 0, 0, 2));
        due(BAD, x.attribute(0, 16, 0, 2));
        due(BAD, x.attribute(0, -1, 0, 2));
        due(BAD, x.attribute(0, 0, 4, 2));
        due(BAD, x.attribute(0, 0, -1, 2));
        due(BAD, x.attribute(0, 0, 0, 100));
        due(BAD, x.attribute(0, 0, 0, -1));
        for (int far : FAR) {
            due(BAD, x.attribute(far, far, far, far));
        }
        due(1, x.attribute(0, 0, 0, 2));
    }

    private static void within() {
        start(3, "within");
        due(-1, x.within(1, 0));
        due(0, x.within(1, 0));
        due(-1, x.within(2, 1));
        due(RING, x.within(0, 2));
        due(RING, x.within(0, 1));
        due(RING, x.within(0, 0));
        due(0, x.within(1, 15));
        due(-1, x.within(0, 2));
        due(15, x.within(1, -1));
        due(BAD, x.within(16, 0));
        due(BAD, x.within(-1, 0));
        due(BAD, x.within(0, 16));
        due(BAD, x.within(0, -2));
        for (int far : FAR) {
            due(BAD, x.within(far, 0));
            due(BAD, x.within(0, far));
        }
        due(2, x.within(0, -1));
        start(3, "within, the longest");
        for (int i = 0; i < 15; i++) {
            due(-1, x.within(i, i + 1));
        }
        due(RING, x.within(15, 0));
        due(0x7fff, x.under(15));
    }

    private static void senior() {
        start(4, "senior");
        due(1, x.senior(0, 19, 1));
        due(NOT, x.senior(0, 19, 1));
        due(RING, x.senior(19, 0, 1));
        due(RING, x.senior(5, 5, 1));
        due(NOT, x.senior(5, 5, 0));
        due(NOT, x.senior(19, 0, 0));
        due(0, x.senior(0, 19, 0));
        due(NOT, x.senior(0, 19, 0));
        due(BAD, x.senior(20, 0, 1));
        due(BAD, x.senior(0, 20, 1));
        due(BAD, x.senior(-1, 0, 1));
        due(BAD, x.senior(0, -1, 1));
        due(BAD, x.senior(0, 1, 2));
        due(BAD, x.senior(0, 1, -1));
        for (int far : FAR) {
            due(BAD, x.senior(far, 1, 1));
            due(BAD, x.senior(0, far, 0));
        }
        for (int i = 0; i < 40; i++) {
            due(i + 1, x.senior(i / 10, 10 + i % 10, 1));
        }
        due(NOT, x.senior(0, 10, 1));
        due(FULL, x.senior(4, 10, 1));
        due(FULL, x.senior(10, 0, 1));
        due(FULL, x.senior(4, 4, 1));
        due(39, x.senior(3, 19, 0));
        due(RING, x.senior(10, 0, 1));
        due(40, x.senior(4, 10, 1));
        start(4, "senior, excluded");
        x.exclude(1, 2, 1);
        x.assign(0, 0, 1);
        due(1, x.senior(0, 1, 1));
        due(EXCLUDED, x.senior(0, 2, 1));
        due(2, x.holds(0, 0) & ~1);
        due(1, x.count(3));
        due(2, x.senior(3, 2, 1));
        due(EXCLUDED, x.senior(1, 3, 1));
        due(3, x.senior(4, 3, 1));
        due(4, x.senior(4, 1, 1));
        due(EXCLUDED, x.assign(0, 4, 1));
        start(4, "senior, by a loan that would stand again");
        x.assign(0, 1, 1);
        x.lend(0, 1, 1, 50, 0);
        x.assign(0, 1, 0);
        x.assign(1, 2, 1);
        x.assign(0, 3, 1);
        x.exclude(1, 2, 1);
        due(EXCLUDED, x.senior(3, 1, 1));
        due(0, x.count(2));
        x.step(50);
        due(1, x.senior(3, 1, 1));
    }

    private static void assign() {
        start(5, "assign");
        due(1, x.assign(15, 19, 1));
        due(NOT, x.assign(15, 19, 1));
        due(2, x.assign(15, 0, 1));
        due(1, x.assign(15, 19, 0));
        due(NOT, x.assign(15, 19, 0));
        due(0, x.assign(15, 0, 0));
        due(BAD, x.assign(16, 0, 1));
        due(BAD, x.assign(-1, 0, 1));
        due(BAD, x.assign(0, 20, 1));
        due(BAD, x.assign(0, -1, 1));
        due(BAD, x.assign(0, 0, 2));
        due(BAD, x.assign(0, 0, -1));
        for (int far : FAR) {
            due(BAD, x.assign(far, 0, 0));
            due(BAD, x.assign(0, far, 1));
        }
        for (int role = 0; role < 20; role++) {
            due(role + 1, x.assign(3, role, 1));
        }
        start(5, "assign, excluded");
        x.exclude(0, 1, 1);
        x.senior(2, 1, 1);
        due(1, x.assign(0, 0, 1));
        due(EXCLUDED, x.assign(0, 1, 1));
        due(EXCLUDED, x.assign(0, 2, 1));
        due(1, x.holds(0, 0));
        due(1, x.assign(1, 2, 1));
        due(EXCLUDED, x.assign(1, 0, 1));
        start(5, "assign, by a loan that would stand again");
        x.assign(0, 0, 1);
        x.lend(0, 1, 0, 50, 0);
        x.assign(0, 0, 0);
        x.assign(1, 1, 1);
        x.exclude(0, 1, 1);
        due(EXCLUDED, x.assign(0, 0, 1));
        due(0, x.holds(0, 1));
        due(0, x.assign(1, 1, 0));
        due(1, x.assign(0, 0, 1));
        due(1, x.holds(1, 0));
        due(EXCLUDED, x.assign(1, 1, 1));
    }

    private static void exclude() {
        start(6, "exclude");
        due(1, x.exclude(3, 4, 1));
        due(NOT, x.exclude(3, 4, 1));
        due(NOT, x.exclude(4, 3, 1));
        due(0, x.exclude(4, 3, 0));
        due(NOT, x.exclude(3, 4, 0));
        due(BAD, x.exclude(3, 3, 1));
        due(BAD, x.exclude(3, 3, 0));
        due(BAD, x.exclude(20, 3, 1));
        due(BAD, x.exclude(3, 20, 1));
        due(BAD, x.exclude(-1, 3, 1));
        due(BAD, x.exclude(3, -1, 1));
        due(BAD, x.exclude(3, 4, 2));
        for (int far : FAR) {
            due(BAD, x.exclude(far, 0, 1));
            due(BAD, x.exclude(0, far, 1));
        }
        x.assign(0, 18, 1);
        x.assign(0, 19, 1);
        due(EXCLUDED, x.exclude(18, 19, 1));
        due(0, x.count(4));
        for (int i = 0; i < 10; i++) {
            due(i + 1, x.exclude(i, i + 1, 1));
        }
        due(NOT, x.exclude(1, 0, 1));
        due(FULL, x.exclude(18, 19, 1));
        due(FULL, x.exclude(16, 17, 1));
        due(9, x.exclude(1, 0, 0));
        due(EXCLUDED, x.exclude(18, 19, 1));
        due(10, x.exclude(16, 17, 1));
        start(6, "exclude, held by senior and loan");
        x.senior(0, 1, 1);
        x.senior(1, 2, 1);
        x.assign(0, 0, 1);
        due(EXCLUDED, x.exclude(2, 0, 1));
        x.assign(1, 5, 1);
        x.lend(0, 1, 2, 9, 0);
        due(EXCLUDED, x.exclude(5, 2, 1));
        x.step(9);
        due(1, x.exclude(5, 2, 1));
    }

    private static void step() {
        start(7, "step");
        due(1, x.step(1));
        due(501, x.step(500));
        due(BAD, x.step(0));
        due(BAD, x.step(-1));
        due(BAD, x.step(501));
        for (int far : FAR) {
            due(BAD, x.step(far));
        }
        for (int i = 0; i < 18; i++) {
            due(501 + 500 * (i + 1), x.step(500));
        }
        due(FULL, x.step(499));
        due(BAD, x.step(501));
        due(9999, x.step(498));
        due(FULL, x.step(1));
        due(9999, x.image());
    }

    private static void lend() {
        start(8, "lend");
        x.senior(0, 1, 1);
        x.assign(0, 0, 1);
        due(STATE, x.lend(1, 2, 0, 10, 0));
        due(0, x.lend(0, 1, 0, 10, 2));
        due(STATE, x.lend(1, 2, 0, 10, 2));
        due(1, x.lend(1, 2, 1, 100, 1));
        due(0, x.loan(1, 5));
        due(STATE, x.lend(2, 3, 0, 10, 0));
        due(2, x.lend(0, 1, 1, 50, 5));
        due(3, x.lend(1, 3, 1, 20, 1));
        due(0, x.loan(3, 5));
        due(4, x.lend(1, 3, 1, 20, 2));
        due(2, x.loan(4, 5));
        due(BAD, x.lend(16, 1, 0, 10, 0));
        due(BAD, x.lend(-1, 1, 0, 10, 0));
        due(BAD, x.lend(0, 16, 0, 10, 0));
        due(BAD, x.lend(0, -1, 0, 10, 0));
        due(BAD, x.lend(0, 0, 0, 10, 0));
        due(BAD, x.lend(0, 1, 20, 10, 0));
        due(BAD, x.lend(0, 1, -1, 10, 0));
        due(BAD, x.lend(0, 1, 0, 10, 6));
        due(BAD, x.lend(0, 1, 0, 10, -1));
        due(BAD, x.lend(0, 1, 0, 0, 0));
        due(BAD, x.lend(0, 1, 0, -5, 0));
        for (int far : FAR) {
            due(BAD, x.lend(far, 1, 0, 10, 0));
            due(BAD, x.lend(0, 1, far, 10, 0));
            due(BAD, x.lend(0, 1, 0, 10, far));
        }
        x.step(5);
        due(BAD, x.lend(0, 1, 0, 5, 0));
        due(5, x.lend(0, 1, 0, 6, 0));
        for (int i = 6; i < 40; i++) {
            due(i, x.lend(0, 1, 0, Integer.MAX_VALUE, 0));
        }
        due(FULL, x.lend(0, 1, 0, 10, 0));
        due(FULL, x.lend(9, 1, 0, 10, 0));
        due(BAD, x.lend(0, 1, 0, 5, 0));
        due(40, x.count(1));
        start(8, "lend, excluded");
        x.assign(0, 0, 1);
        x.assign(1, 1, 1);
        x.exclude(0, 1, 1);
        due(EXCLUDED, x.lend(0, 1, 0, 10, 0));
        due(STATE, x.lend(2, 1, 0, 10, 0));
        due(0, x.count(1));
        due(0, x.lend(0, 2, 0, 10, 0));
        due(EXCLUDED, x.lend(1, 2, 1, 10, 0));
        x.step(10);
        due(1, x.lend(1, 2, 1, 11, 0));
        start(8, "lend, the source stays though its roles go");
        x.senior(0, 1, 1);
        x.assign(0, 0, 1);
        x.lend(0, 1, 0, 50, 3);
        x.lend(1, 2, 1, 60, 2);
        x.senior(0, 1, 0);
        due(0, x.holds(1, 0) & 2);
        due(2, x.holds(2, 0));
        due(STATE, x.lend(1, 3, 1, 60, 0));
        x.assign(1, 1, 1);
        due(2, x.lend(1, 3, 1, 60, 5));
        due(-1, x.loan(2, 5));
        due(0, x.loan(1, 5));
        x.step(49);
        due(1, x.loan(1, 6));
        x.step(1);
        due(0, x.loan(1, 6));
    }

    private static void takeBack() {
        start(9, "takeBack");
        x.assign(0, 0, 1);
        x.lend(0, 1, 0, 10, 5);
        x.lend(1, 2, 0, 10, 4);
        x.lend(2, 3, 0, 5, 3);
        x.lend(0, 4, 0, 10, 5);
        due(BAD, x.takeBack(4));
        due(BAD, x.takeBack(-1));
        for (int far : FAR) {
            due(BAD, x.takeBack(far));
        }
        x.step(5);
        due(STATE, x.takeBack(2));
        due(2, x.takeBack(0));
        due(STATE, x.takeBack(0));
        due(STATE, x.takeBack(1));
        due(1, x.count(2));
        x.assign(0, 0, 0);
        due(STATE, x.takeBack(3));
        x.assign(0, 0, 1);
        due(1, x.holds(4, 0));
        due(0, x.holds(1, 0));
        due(1, x.takeBack(3));
        due(0, x.count(2));
    }

    private static void loan() {
        start(10, "loan");
        x.assign(7, 19, 1);
        x.step(3);
        due(0, x.lend(7, 8, 19, 9, 5));
        due(1, x.lend(8, 9, 19, 70, 4));
        int[] first = {7, 8, 19, 9, 5, -1, 1};
        int[] second = {8, 9, 19, 70, 4, 0, 1};
        for (int what = 0; what < 7; what++) {
            due(first[what], x.loan(0, what));
            due(second[what], x.loan(1, what));
        }
        x.step(6);
        due(0, x.loan(0, 6));
        due(0, x.loan(1, 6));
        due(0, x.loan(1, 5));
        due(BAD, x.loan(2, 0));
        due(BAD, x.loan(-1, 0));
        due(BAD, x.loan(0, 7));
        due(BAD, x.loan(0, -1));
        for (int far : FAR) {
            due(BAD, x.loan(far, 0));
            due(BAD, x.loan(0, far));
        }
    }

    private static void holds() {
        start(11, "holds");
        x.senior(0, 1, 1);
        x.senior(1, 2, 1);
        x.senior(5, 6, 1);
        x.assign(0, 0, 1);
        x.assign(1, 5, 1);
        x.lend(1, 0, 5, 10, 0);
        due(103, x.holds(0, 0));
        due(1, x.holds(0, 1));
        due(7, x.holds(0, 2));
        due(96, x.holds(1, 0));
        x.senior(1, 2, 0);
        due(99, x.holds(0, 0));
        x.step(10);
        due(3, x.holds(0, 0));
        due(BAD, x.holds(16, 0));
        due(BAD, x.holds(-1, 0));
        due(BAD, x.holds(0, 3));
        due(BAD, x.holds(0, -1));
        for (int far : FAR) {
            due(BAD, x.holds(far, 0));
            due(BAD, x.holds(0, far));
        }
    }

    private static void feedBytes() {
        start(12, "feed");
        due(BAD, x.feed(0));
        due(BAD, x.feed(256));
        due(BAD, x.feed(-1));
        for (int far : FAR) {
            due(BAD, x.feed(far));
        }
        due(1, x.feed(255));
        due(2, x.feed(1));
        for (int i = 3; i <= 80; i++) {
            due(i, x.feed('1'));
        }
        due(FULL, x.feed('1'));
        due(BAD, x.feed(0));
        due(80, x.count(5));
        due(-100, x.rule(0, 1, 0, 0, -1));
        due(0, x.count(5));
        due(1, x.feed('1'));
        start(12, "feed, the longest text");
        StringBuilder text = new StringBuilder("1");
        for (int i = 0; i < 39; i++) {
            text.append("+1");
        }
        feed(text.toString());
        due(80, x.feed('='));
        due(-180, x.rule(0, 1, 0, 0, -1));
        feed(text.append("0").toString());
        due(0, x.rule(0, 1, 0, 0, -1));
    }

    private static void rule() {
        start(13, "rule");
        due(BAD, x.rule(20, 1, 0, 0, -1));
        due(BAD, x.rule(99, 1, 0, 0, -1));
        due(BAD, x.rule(120, 1, 0, 0, -1));
        due(BAD, x.rule(200, 1, 0, 0, -1));
        due(BAD, x.rule(-1, 1, 0, 0, -1));
        due(BAD, x.rule(0, 0, 0, 0, -1));
        due(BAD, x.rule(0, 256, 0, 0, -1));
        due(BAD, x.rule(0, -1, 0, 0, -1));
        due(BAD, x.rule(0, 1, 16, 0, -1));
        due(BAD, x.rule(0, 1, 99, 0, -1));
        due(BAD, x.rule(0, 1, 116, 0, -1));
        due(BAD, x.rule(0, 1, 200, 0, -1));
        due(BAD, x.rule(0, 1, -1, 0, -1));
        due(BAD, x.rule(0, 1, 0, -1, -1));
        due(BAD, x.rule(0, 1, 0, 10000, -1));
        due(BAD, x.rule(0, 1, 0, 10000, 10001));
        due(BAD, x.rule(0, 1, 0, 0, 0));
        due(BAD, x.rule(0, 1, 0, 5, 5));
        due(BAD, x.rule(0, 1, 0, 5, 4));
        due(BAD, x.rule(0, 1, 0, 0, -2));
        for (int far : FAR) {
            due(BAD, x.rule(far, 1, 0, 0, -1));
            due(BAD, x.rule(0, far, 0, 0, -1));
            due(BAD, x.rule(0, 1, far, 0, -1));
            due(BAD, x.rule(0, 1, 0, far, -1));
        }
        x.feed('x');
        due(BAD, x.rule(20, 1, 0, 0, -1));
        due(1, x.count(5));
        due(-100, x.rule(0, 1, 0, 0, -1));
        due(0, x.count(5));
        due(0, x.rule(19, 255, 15, 9999, 10000));
        due(1, x.rule(119, 1, 115, 0, Integer.MAX_VALUE));
        for (int i = 2; i < 30; i++) {
            due(i, x.rule(100, 1, 100, 0, -1));
        }
        x.off(3);
        x.feed('x');
        due(FULL, x.rule(0, 1, 0, 0, -1));
        due(BAD, x.rule(20, 1, 0, 0, -1));
        due(1, x.count(5));
        due(29, x.count(0));
    }

    private static void fault(int place, String text) {
        due(-100 - place, condition(text));
        due(0, x.count(5));
    }

    private static void ruleFaults() {
        start(13, "rule, faults");
        fault(0, "x");
        fault(0, ")");
        fault(0, "|1");
        fault(0, "+1");
        fault(1, "u");
        fault(1, "u4");
        fault(1, "ut");
        fault(1, "t");
        fault(1, "t9");
        fault(2, "u00");
        fault(3, "1234");
        fault(1, "1 ");
        fault(1, "1u0");
        fault(1, "1(2)");
        fault(1, "1!");
        fault(2, "1|");
        fault(2, "1||1");
        fault(2, "1&&1");
        fault(2, "1+*");
        fault(3, "1<2<3");
        fault(3, "1=2>3");
        fault(4, "(1<2=3)");
        fault(5, "1+1<2>3");
        fault(1, "1)");
        fault(3, "(1))");
        fault(1, "()");
        fault(2, "(1");
        fault(4, "((1)");
        fault(3, "!-(");
        fault(1, "(|");
        fault(6, "!!!!!!!1");
        fault(6, "------(");
        fault(6, "((((((");
        fault(6, "(((((((");
        fault(6, "!-(!-(-1");
        fault(10, "1|!!!(((1+!");
        fault(1, "na");
    }

    private static void conditions() {
        start(13, "rule, what conditions say");
        x.assign(0, 0, 1);
        x.within(1, 0);
        x.attribute(0, 0, 0, 7);
        x.attribute(0, 0, 3, 9);
        x.attribute(1, 1, 0, 3);
        x.attribute(1, 1, 3, 99);
        x.step(4);
        x.image();
        value("0", false);
        value("000", false);
        value("999", true);
        value("u0=7", true);
        value("u3=9&u1=0", true);
        value("t0=3&t3=99", true);
        value("t0=7", false);
        value("n=4", true);
        value("a=1", true);
        value("d=1", true);
        value("1+2*3=7", true);
        value("(1+2)*3=9", true);
        value("9-2-3=4", true);
        value("2-3<0", true);
        value("2>2", false);
        value("2<2", false);
        value("!0", true);
        value("!5", false);
        value("!!5=1", true);
        value("-1+1", false);
        value("-1*-1=1", true);
        value("!0*3=3", true);
        value("-!0=-1", true);
        value("4&2", true);
        value("(4&2)=1", true);
        x.back();
        value("(4|2)=1", true);
        value("1=1&0|1", true);
        value("1|0&0", true);
        value("(1|0)&0", false);
        value("(1<2)=0|1", true);
        value("3-1-1=1", true);
        value("!(1=2)", true);
        value("((((((1))))))", true);
        value("!-!(!1)", false);
        value("!-!(!(0))", true);
        value("(((!!!0)))&(((1)))", true);
        value("1--1=2", true);
        value("999*999*999*999*999=999", false);
        value("999*999*999*3<0", true);
        value("0-1", true);
        value("7*u0-t0*u0=28", true);
    }

    private static void off() {
        start(14, "off");
        x.assign(0, 0, 1);
        x.rule(0, 1, 0, 0, -1);
        x.rule(0, 1, 0, 0, -1);
        due(1, x.may(0, 0, 0));
        due(0, x.why(0, 1));
        due(1, x.off(0));
        due(BAD, x.off(0));
        due(1, x.may(0, 0, 0));
        due(1, x.why(0, 1));
        due(2, x.rule(100, 1, 0, 0, -1));
        due(2, x.may(0, 0, 0));
        due(1, x.off(2));
        due(0, x.off(1));
        due(0, x.may(0, 0, 0));
        due(BAD, x.off(3));
        due(BAD, x.off(-1));
        for (int far : FAR) {
            due(BAD, x.off(far));
        }
        due(3, x.rule(0, 1, 0, 0, -1));
    }

    private static void of() {
        start(15, "of");
        feed("1");
        x.rule(119, 255, 115, 9999, 10000);
        x.rule(3, 6, 7, 8, -1);
        int[] first = {1, 19, 255, 15, 1, 9999, 10000, 1};
        int[] second = {0, 3, 6, 7, 0, 8, -1, 0};
        for (int what = 0; what < 8; what++) {
            due(first[what], x.of(0, what));
            due(second[what], x.of(1, what));
        }
        due(BAD, x.of(0, 8));
        due(BAD, x.of(0, -1));
        due(BAD, x.of(2, 0));
        due(BAD, x.of(-1, 0));
        for (int far : FAR) {
            due(BAD, x.of(far, 0));
            due(BAD, x.of(0, far));
        }
        x.off(0);
        due(BAD, x.of(0, 0));
        due(0, x.of(1, 0));
    }

    private static void uses() {
        start(16, "uses");
        x.assign(0, 0, 1);
        x.rule(0, 1, 0, 0, -1);
        x.rule(0, 1, 0, 0, -1);
        due(NOT, x.left(0));
        due(1, x.uses(0, 2));
        due(2, x.left(0));
        due(BAD, x.uses(0, 0));
        due(BAD, x.uses(0, 100));
        due(BAD, x.uses(0, -2));
        due(BAD, x.uses(2, 1));
        due(BAD, x.uses(-1, 1));
        for (int far : FAR) {
            due(BAD, x.uses(0, far));
            due(BAD, x.uses(far, 1));
            due(BAD, x.left(far));
        }
        due(1, x.who(0, 0, 0));
        due(1, x.could(0, 0, 9));
        due(2, x.left(0));
        due(1, x.may(0, 0, 0));
        due(0, x.may(1, 0, 0));
        due(1, x.left(0));
        due(1, x.may(0, 0, 0));
        due(0, x.why(0, 1));
        due(0, x.left(0));
        due(1, x.may(0, 0, 0));
        due(1, x.why(0, 1));
        due(0, x.left(0));
        due(NOT, x.left(1));
        due(1, x.uses(0, -1));
        due(NOT, x.left(0));
        due(1, x.uses(0, 99));
        x.may(0, 0, 0);
        due(98, x.left(0));
        start(17, "left");
        x.assign(0, 0, 1);
        x.rule(0, 1, 0, 0, -1);
        x.rule(100, 1, 0, 0, -1);
        x.uses(0, 1);
        x.uses(1, 1);
        due(2, x.may(0, 0, 0));
        due(1, x.left(0));
        due(0, x.left(1));
        due(1, x.may(0, 0, 0));
        due(0, x.may(0, 0, 0));
        due(0, x.left(0));
        due(BAD, x.left(2));
        due(BAD, x.left(-1));
        x.off(0);
        due(BAD, x.left(0));
        due(BAD, x.uses(0, 1));
    }

    private static void seniors() {
        start(18, "seniors");
        due(2, pairs("0>1,19>02"));
        due(3, x.roles(0, 0) + x.roles(1, 1));
        due(4, x.roles(19, 0));
        due(0, x.count(5));
        due(-100, pairs(""));
        due(-101, pairs("5"));
        due(-102, pairs("5>"));
        due(-102, pairs("5>>"));
        due(-104, pairs("5>6,"));
        due(-104, pairs("5>6, 7>8"));
        due(-104, pairs("5>6,,"));
        due(-103, pairs("5>6;7>8"));
        due(-100, pairs("20>1"));
        due(-100, pairs("99>1"));
        due(-102, pairs("5>20"));
        due(-102, pairs("5>203"));
        due(-104, pairs("5>123"));
        due(-102, pairs("123>5"));
        due(-104, pairs("5>6,30>x"));
        due(-100, pairs(">"));
        due(2, x.count(3));
        due(1, pairs("5>6,0>1,7>8"));
        due(3, x.count(3));
        due(0, pairs("0>1,7>8"));
        due(0, pairs("8>8"));
        due(1, pairs("1>9,9>0,7>8"));
        x.exclude(10, 11, 1);
        x.assign(0, 10, 1);
        due(1, pairs("11>12,10>11,7>8"));
        due(5, x.count(3));
        start(18, "seniors, the most");
        due(20, pairs("0>1,0>2,0>3,0>4,0>5,0>6,0>7,0>8,0>9,1>2,1>3,1>4,1>5,1>6,1>7,1>8,1>9,2>3,2>4,2>5"));
        due(18, pairs("2>6,2>7,2>8,2>9,3>4,3>5,3>6,3>7,3>8,3>9,4>5,4>6,4>7,4>8,4>9,5>6,5>7,5>8"));
        due(2, pairs("5>9,6>7,6>8,7>8"));
        due(40, x.count(3));
        due(0, pairs("7>8"));
    }

    private static void may() {
        start(19, "may");
        x.within(1, 0);
        x.assign(0, 0, 1);
        x.rule(0, 2, 0, 0, -1);
        due(1, x.may(0, 1, 0));
        due(0, x.may(0, 1, 1));
        due(0, x.may(0, 0, 0));
        due(0, x.may(1, 1, 0));
        x.rule(0, 1, 100, 5, 7);
        due(0, x.may(0, 0, 1));
        x.step(5);
        due(1, x.may(0, 0, 1));
        due(1, x.may(0, 0, 0));
        x.step(1);
        due(1, x.may(0, 0, 1));
        x.step(1);
        due(0, x.may(0, 0, 1));
        x.rule(0, 4, 0, 0, -1);
        x.rule(100, 4, 0, 0, -1);
        x.rule(100, 4, 0, 0, -1);
        due(2, x.may(0, 2, 0));
        due(3, x.why(0, 1));
        due(5, x.count(0));
        due(BAD, x.may(16, 0, 0));
        due(BAD, x.may(-1, 0, 0));
        due(BAD, x.may(0, 8, 0));
        due(BAD, x.may(0, -1, 0));
        due(BAD, x.may(0, 0, 16));
        due(BAD, x.may(0, 0, -1));
        for (int far : FAR) {
            due(BAD, x.may(far, 0, 0));
            due(BAD, x.may(0, far, 0));
            due(BAD, x.may(0, 0, far));
        }
        due(3, x.why(0, 1));
    }

    private static void why() {
        start(20, "why");
        due(NOT, x.why(0, 0));
        due(BAD, x.why(-1, 0));
        due(BAD, x.why(0, 2));
        due(BAD, x.why(0, -1));
        for (int far : FAR) {
            due(BAD, x.why(0, far));
        }
        pairs("5>0,4>0,9>5,9>4,3>9,8>0,7>8");
        x.rule(0, 1, 0, 0, -1);
        x.assign(0, 3, 1);
        due(1, x.may(0, 0, 0));
        grounds(1, 0, 2, 0, 2, 4, 2, 9, 2, 3, 4, 0);
        x.assign(0, 7, 1);
        x.may(0, 0, 0);
        grounds(1, 0, 2, 0, 2, 8, 2, 7, 4, 0);
        x.assign(0, 9, 1);
        x.may(0, 0, 0);
        grounds(1, 0, 2, 0, 2, 4, 2, 9, 4, 0);
        x.assign(1, 0, 1);
        x.lend(1, 0, 0, 50, 3);
        x.may(0, 0, 0);
        grounds(1, 0, 2, 0, 2, 4, 2, 9, 4, 0);
        x.lend(0, 2, 7, 50, 4);
        x.lend(0, 2, 8, 50, 5);
        x.lend(0, 2, 8, 50, 5);
        x.may(2, 0, 0);
        grounds(1, 0, 2, 0, 2, 8, 3, 2, 4, 0);
        x.lend(2, 3, 0, 50, 3);
        x.lend(3, 4, 0, 50, 2);
        x.may(4, 0, 0);
        grounds(1, 0, 2, 0, 3, 5, 3, 4, 3, 1, 4, 0);
        due(BAD, x.may(4, 0, 99));
        grounds(1, 0, 2, 0, 3, 5, 3, 4, 3, 1, 4, 0);
        x.who(0, 0, 0);
        x.image();
        x.may(0, 0, 0);
        x.back();
        grounds(1, 0, 2, 0, 2, 4, 2, 9, 4, 0);
        due(0, x.may(15, 0, 0));
        grounds();
    }

    private static void who() {
        start(21, "who");
        x.rule(0, 1, 0, 0, -1);
        x.rule(101, 1, 0, 0, -1);
        x.assign(0, 0, 1);
        x.assign(15, 0, 1);
        x.assign(3, 0, 1);
        x.assign(3, 1, 1);
        due(0x8001, x.who(0, 0, 0));
        due(8, x.who(0, 0, 1));
        due(0, x.who(1, 0, 0));
        due(0, x.count(6));
        due(BAD, x.who(8, 0, 0));
        due(BAD, x.who(-1, 0, 0));
        due(BAD, x.who(0, 16, 0));
        due(BAD, x.who(0, -1, 0));
        due(BAD, x.who(0, 0, 2));
        due(BAD, x.who(0, 0, -1));
        for (int far : FAR) {
            due(BAD, x.who(far, 0, 0));
            due(BAD, x.who(0, far, 0));
            due(BAD, x.who(0, 0, far));
        }
    }

    private static void where() {
        start(22, "where");
        x.within(5, 3);
        x.within(15, 5);
        x.rule(0, 1, 103, 0, -1);
        x.rule(100, 1, 5, 0, -1);
        x.rule(0, 1, 0, 0, -1);
        x.assign(2, 0, 1);
        due(0x8009, x.where(2, 0));
        due(0, x.where(2, 1));
        due(0, x.where(1, 0));
        due(BAD, x.where(16, 0));
        due(BAD, x.where(-1, 0));
        due(BAD, x.where(0, 8));
        due(BAD, x.where(0, -1));
        for (int far : FAR) {
            due(BAD, x.where(far, 0));
            due(BAD, x.where(0, far));
        }
    }

    private static void could() {
        start(23, "could");
        x.assign(0, 0, 1);
        x.assign(1, 1, 1);
        x.rule(0, 1, 0, 200, 201);
        feed("n=7");
        x.rule(1, 1, 0, 0, -1);
        due(0, x.could(0, 0, 0));
        due(0, x.could(0, 0, 6));
        due(2, x.could(0, 0, 7));
        due(2, x.could(0, 0, 199));
        due(3, x.could(0, 0, 200));
        x.lend(1, 5, 1, 7, 0);
        x.lend(1, 6, 1, 8, 0);
        due(66, x.could(0, 0, 7));
        due(0, x.who(0, 0, 0));
        x.step(7);
        due(66, x.could(0, 0, 0));
        x.step(1);
        due(1, x.could(0, 0, 200));
        due(BAD, x.could(8, 0, 0));
        due(BAD, x.could(-1, 0, 0));
        due(BAD, x.could(0, 16, 0));
        due(BAD, x.could(0, -1, 0));
        due(BAD, x.could(0, 0, 201));
        due(BAD, x.could(0, 0, -1));
        for (int far : FAR) {
            due(BAD, x.could(far, 0, 0));
            due(BAD, x.could(0, far, 0));
            due(BAD, x.could(0, 0, far));
        }
    }

    private static void change(int user, int... want) {
        due(want.length, x.least(user, 0, 0, -1));
        for (int i = 0; i < want.length; i++) {
            due(want[i], x.least(user, 0, 0, i));
        }
        due(NOT, x.least(user, 0, 0, want.length));
        due(NOT, x.least(user, 0, 0, Integer.MAX_VALUE));
    }

    private static void noChange(int user) {
        due(NOT, x.least(user, 0, 0, -1));
        due(NOT, x.least(user, 0, 0, 0));
    }

    private static void least() {
        start(24, "least");
        noChange(0);
        x.rule(5, 1, 0, 0, -1);
        change(0, 5);
        x.senior(7, 5, 1);
        x.senior(3, 7, 1);
        change(0, 3);
        x.assign(0, 3, 1);
        change(0);
        x.rule(105, 1, 0, 0, -1);
        change(0, 101);
        change(1, 3, 101);
        x.rule(103, 1, 0, 0, -1);
        change(0, 101, 102);
        change(1, 5, 101);
        x.rule(103, 2, 0, 0, -1);
        x.rule(103, 1, 1, 0, -1);
        x.rule(103, 1, 0, 1, -1);
        x.rule(107, 1, 0, 0, -1);
        change(0, 101, 102, 106);
        change(1, 5, 101);
        x.rule(107, 1, 0, 0, -1);
        noChange(0);
        x.rule(0, 1, 0, 1, -1);
        noChange(0);
        feed("u0=1");
        x.rule(1, 1, 0, 0, -1);
        noChange(0);
        x.attribute(0, 1, 0, 1);
        change(1, 1);
        x.off(1);
        change(0, 102, 106, 107);
        due(BAD, x.least(16, 0, 0, 0));
        due(BAD, x.least(0, 8, 0, 0));
        due(BAD, x.least(0, 0, 16, 0));
        due(BAD, x.least(0, 0, 0, -2));
        for (int far : FAR) {
            due(BAD, x.least(far, 0, 0, 0));
            due(BAD, x.least(0, far, 0, 0));
            due(BAD, x.least(0, 0, far, 0));
        }
        due(BAD, x.least(0, 0, 0, Integer.MIN_VALUE));
    }

    private static void leastExcluded() {
        start(24, "least, excluded");
        x.rule(5, 1, 0, 0, -1);
        x.senior(2, 5, 1);
        x.exclude(2, 9, 1);
        x.exclude(5, 10, 1);
        x.assign(0, 9, 1);
        change(0, 5);
        x.assign(1, 10, 1);
        noChange(1);
        change(2, 2);
        start(24, "least, by a loan that would stand again");
        x.assign(0, 1, 1);
        x.senior(2, 1, 1);
        x.lend(0, 1, 1, 90, 1);
        x.assign(0, 1, 0);
        x.rule(1, 1, 0, 0, -1);
        x.exclude(1, 7, 1);
        x.assign(1, 7, 1);
        // That USER 1 would HOLD both is not looked at: only the USER itself is.
        change(0, 1);
        due(EXCLUDED, x.assign(0, 1, 1));
        noChange(1);
        start(24, "least, twice lent");
        x.assign(0, 1, 1);
        x.lend(0, 1, 1, 90, 5);
        x.lend(1, 0, 1, 90, 4);
        due(0, x.loan(1, 5));
        x.assign(0, 1, 0);
        due(0, x.holds(0, 0));
        x.assign(0, 1, 1);
        due(2, x.count(2));
    }

    private static void until() {
        start(25, "until");
        x.assign(0, 0, 1);
        x.rule(0, 1, 0, 10, 20);
        x.rule(0, 1, 0, 20, 30);
        x.rule(100, 1, 0, 25, 26);
        due(10, x.until(0, 0, 0));
        x.step(10);
        due(25, x.until(0, 0, 0));
        x.step(15);
        due(26, x.until(0, 0, 0));
        x.step(1);
        due(30, x.until(0, 0, 0));
        x.step(4);
        due(NOT, x.until(0, 0, 0));
        x.rule(0, 1, 0, 231, -1);
        due(NOT, x.until(0, 0, 0));
        x.step(1);
        due(231, x.until(0, 0, 0));
        x.rule(0, 2, 0, 0, -1);
        x.lend(0, 1, 0, 77, 0);
        due(77, x.until(1, 1, 0));
        due(NOT, x.until(0, 1, 0));
        due(BAD, x.until(16, 0, 0));
        due(BAD, x.until(0, 8, 0));
        due(BAD, x.until(0, 0, 16));
        for (int far : FAR) {
            due(BAD, x.until(far, 0, 0));
            due(BAD, x.until(0, far, 0));
            due(BAD, x.until(0, 0, far));
        }
    }

    private static void loss(int user, int... want) {
        due(want.length, x.lose(user, 0, 0, -1));
        for (int i = 0; i < want.length; i++) {
            due(want[i], x.lose(user, 0, 0, i));
        }
        due(NOT, x.lose(user, 0, 0, want.length));
        due(NOT, x.lose(user, 0, 0, Integer.MAX_VALUE));
    }

    private static void lose() {
        start(26, "lose");
        loss(0);
        x.senior(2, 1, 1);
        x.rule(1, 1, 0, 0, -1);
        x.assign(0, 2, 1);
        loss(0, 2);
        x.assign(0, 1, 1);
        loss(0, 200);
        x.rule(1, 1, 0, 0, -1);
        loss(0, 1, 2);
        x.assign(1, 2, 1);
        x.lend(1, 0, 2, 50, 3);
        loss(0, 200, 201);
        x.rule(1, 1, 0, 0, -1);
        loss(0, 1, 2, 100);
        x.lend(1, 0, 1, 50, 3);
        loss(0, 200, 201, 202);
        x.rule(1, 1, 0, 0, -1);
        due(NOT, x.lose(0, 0, 0, -1));
        due(NOT, x.lose(0, 0, 0, 0));
        x.assign(0, 1, 0);
        x.assign(0, 2, 0);
        loss(0, 100, 101);
        x.lend(0, 3, 1, 50, 2);
        x.lend(3, 4, 1, 50, 1);
        loss(4, 100);
        due(2, x.loan(2, 5) + x.loan(3, 5));
        x.rule(100, 1, 0, 0, 5);
        loss(0, 100, 101);
        x.rule(102, 1, 0, 0, 5);
        loss(0);
        x.step(5);
        loss(0, 100, 101);
        due(BAD, x.lose(16, 0, 0, 0));
        due(BAD, x.lose(0, 8, 0, 0));
        due(BAD, x.lose(0, 0, 16, 0));
        due(BAD, x.lose(0, 0, 0, -2));
        for (int far : FAR) {
            due(BAD, x.lose(far, 0, 0, 0));
            due(BAD, x.lose(0, far, 0, 0));
            due(BAD, x.lose(0, 0, far, 0));
        }
        start(26, "lose, of its own role lent to and fro");
        x.senior(5, 6, 1);
        x.assign(0, 5, 1);
        x.assign(0, 7, 1);
        x.lend(0, 1, 6, 50, 5);
        x.assign(0, 5, 0);
        x.assign(0, 6, 1);
        x.lend(1, 0, 6, 50, 4);
        x.rule(6, 1, 0, 0, -1);
        x.rule(6, 1, 0, 0, -1);
        loss(0, 6);
        loss(1, 100);
    }

    private static void changes() {
        start(27, "changes");
        x.assign(0, 0, 1);
        x.rule(0, 1, 0, 10, 20);
        x.rule(100, 1, 0, 20, 21);
        x.rule(0, 1, 0, 21, 200);
        int[] ticks = {10, 20, 21, 200};
        due(4, x.changes(0, 0, 0, -1));
        for (int i = 0; i < 4; i++) {
            due(ticks[i], x.changes(0, 0, 0, i));
        }
        due(NOT, x.changes(0, 0, 0, 4));
        due(NOT, x.changes(0, 0, 0, Integer.MAX_VALUE));
        due(0, x.changes(1, 0, 0, -1));
        due(NOT, x.changes(1, 0, 0, 0));
        x.step(10);
        due(3, x.changes(0, 0, 0, -1));
        due(20, x.changes(0, 0, 0, 0));
        feed("n-n*n+t0*n");
        due(3, x.rule(1, 1, 0, 0, -1));
        feed("n=n|1");
        x.rule(101, 1, 0, 210, 212);
        x.assign(0, 1, 1);
        due(3, x.changes(0, 0, 0, -1));
        due(21, x.changes(0, 0, 0, 1));
        due(210, x.changes(0, 0, 0, 2));
        due(BAD, x.changes(16, 0, 0, 0));
        due(BAD, x.changes(0, 8, 0, 0));
        due(BAD, x.changes(0, 0, 16, 0));
        due(BAD, x.changes(0, 0, 0, -2));
        for (int far : FAR) {
            due(BAD, x.changes(far, 0, 0, 0));
            due(BAD, x.changes(0, far, 0, 0));
            due(BAD, x.changes(0, 0, far, 0));
        }
    }

    private static void ways() {
        start(28, "ways");
        pairs("0>1,0>2,1>3,2>3,0>3,3>4");
        x.assign(0, 0, 1);
        due(1, x.ways(0, 0));
        due(3, x.ways(0, 3));
        due(3, x.ways(0, 4));
        due(0, x.ways(0, 5));
        x.assign(0, 3, 1);
        due(4, x.ways(0, 4));
        x.assign(1, 0, 1);
        x.lend(1, 0, 1, 10, 0);
        x.lend(1, 0, 1, 20, 0);
        due(6, x.ways(0, 4));
        due(3, x.ways(0, 1));
        x.step(10);
        due(5, x.ways(0, 4));
        due(0, x.ways(2, 4));
        due(BAD, x.ways(16, 0));
        due(BAD, x.ways(-1, 0));
        due(BAD, x.ways(0, 20));
        due(BAD, x.ways(0, -1));
        for (int far : FAR) {
            due(BAD, x.ways(far, 0));
            due(BAD, x.ways(0, far));
        }
        start(28, "ways, the most");
        for (int i = 0; i < 19; i++) {
            x.senior(i, i + 1, 1);
            x.senior(i, Math.min(19, i + 2), 1);
        }
        x.assign(0, 0, 1);
        due(6765, x.ways(0, 19));
    }

    private static void idle() {
        start(29, "idle");
        pairs("0>1,1>2,2>3");
        x.assign(0, 0, 1);
        due(15, x.idle(0));
        x.rule(1, 1, 0, 500, 501);
        feed("0");
        x.rule(2, 1, 0, 0, -1);
        x.rule(100, 1, 0, 0, -1);
        due(9, x.idle(0));
        x.off(0);
        due(11, x.idle(0));
        x.lend(0, 1, 1, 10, 0);
        due(10, x.idle(1));
        due(0, x.idle(2));
        due(BAD, x.idle(16));
        due(BAD, x.idle(-1));
        for (int far : FAR) {
            due(BAD, x.idle(far));
        }
    }

    private static void unlike() {
        start(30, "unlike");
        x.within(1, 0);
        x.rule(0, 129, 100, 0, -1);
        x.rule(101, 128, 1, 0, -1);
        x.assign(0, 0, 1);
        x.assign(1, 1, 1);
        due(4, x.unlike(0, 1, -1));
        due(0, x.unlike(0, 1, 0));
        due(1, x.unlike(0, 1, 1));
        due(112, x.unlike(0, 1, 2));
        due(113, x.unlike(1, 0, 3));
        due(NOT, x.unlike(0, 1, 4));
        due(NOT, x.unlike(0, 1, Integer.MAX_VALUE));
        due(0, x.unlike(0, 0, -1));
        due(1, x.unlike(1, 2, -1));
        due(113, x.unlike(1, 2, 0));
        due(BAD, x.unlike(16, 0, 0));
        due(BAD, x.unlike(0, 16, 0));
        due(BAD, x.unlike(-1, 0, 0));
        due(BAD, x.unlike(0, -1, 0));
        due(BAD, x.unlike(0, 1, -2));
        for (int far : FAR) {
            due(BAD, x.unlike(far, 0, 0));
            due(BAD, x.unlike(0, far, 0));
        }
    }

    private static void book() {
        start(31, "book");
        due(NOT, x.book(0, 0));
        x.assign(3, 0, 1);
        x.rule(100, 2, 5, 0, -1);
        x.step(8);
        x.may(3, 1, 5);
        x.may(2, 7, 15);
        x.may(99, 7, 15);
        x.who(1, 5, 1);
        int[] first = {8, 3, 1, 5, 2, 0};
        int[] second = {8, 2, 7, 15, 0, -1};
        for (int what = 0; what < 6; what++) {
            due(first[what], x.book(0, what));
            due(second[what], x.book(1, what));
        }
        due(NOT, x.book(2, 0));
        due(NOT, x.book(Integer.MAX_VALUE, 0));
        due(BAD, x.book(-1, 0));
        due(BAD, x.book(0, 6));
        due(BAD, x.book(0, -1));
        due(BAD, x.book(5, 6));
        for (int i = 2; i < 30; i++) {
            x.may(i % 16, i % 8, 0);
        }
        due(3, x.book(0, 1));
        due(13, x.book(29, 1));
        due(NOT, x.book(30, 1));
        x.may(14, 6, 0);
        due(2, x.book(0, 1));
        due(14, x.book(29, 1));
        due(NOT, x.book(30, 1));
    }

    private static void shadowed() {
        start(32, "shadowed");
        pairs("0>1,1>2");
        x.within(1, 0);
        x.within(2, 1);
        x.rule(1, 3, 101, 5, 10);
        due(NOT, x.shadowed(0));
        int[][] shadows = {{1, 3, 101, 5, 10}, {2, 7, 100, 0, 11}, {2, 3, 101, 5, -1}};
        for (int i = 0; i < shadows.length; i++) {
            int[] s = shadows[i];
            int rule = x.rule(s[0], s[1], s[2], s[3], s[4]);
            // Of two that are so of each other the lesser one is not.
            due(i == 0 ? NOT : rule, x.shadowed(0));
            due(i == 0 ? 0 : NOT, x.shadowed(rule));
            x.off(rule);
            due(BAD, x.shadowed(rule));
        }
        int[][] none = {{101, 3, 101, 5, 10}, {0, 3, 101, 5, 10}, {1, 1, 101, 5, 10}, {1, 3, 1, 5, 10},
            {1, 3, 0, 5, 10}, {1, 3, 102, 5, 10}, {1, 3, 101, 6, 10}, {1, 3, 101, 5, 9}, {3, 3, 101, 5, 10}};
        for (int[] n : none) {
            int rule = x.rule(n[0], n[1], n[2], n[3], n[4]);
            due(NOT, x.shadowed(0));
            x.off(rule);
        }
        feed("1");
        int conditional = x.rule(1, 3, 101, 5, 10);
        due(NOT, x.shadowed(0));
        due(0, x.shadowed(conditional));
        due(BAD, x.shadowed(29));
        due(BAD, x.shadowed(-1));
        for (int far : FAR) {
            due(BAD, x.shadowed(far));
        }
        start(32, "shadowed, for ever");
        x.rule(0, 1, 0, 0, -1);
        x.rule(0, 1, 0, 0, Integer.MAX_VALUE);
        x.rule(0, 1, 100, 0, -1);
        due(2, x.shadowed(0));
        due(0, x.shadowed(1));
        due(NOT, x.shadowed(2));
    }

    private static void clash() {
        start(33, "clash");
        pairs("0>1,0>2");
        x.within(1, 0);
        x.rule(1, 3, 100, 5, 10);
        int[][] clashing = {{102, 2, 1, 9, 20}, {101, 1, 0, 0, 6}, {100, 3, 101, 0, -1}};
        int[][] others = {{2, 3, 100, 5, 10}, {103, 3, 100, 5, 10}, {101, 4, 100, 5, 10}, {101, 3, 102, 5, 10},
            {101, 3, 100, 10, 11}, {101, 3, 100, 0, 5}};
        for (int[] c : clashing) {
            x.rule(c[0], c[1], c[2], c[3], c[4]);
        }
        for (int[] o : others) {
            x.rule(o[0], o[1], o[2], o[3], o[4]);
        }
        due(3, x.clash(0, -1));
        for (int i = 0; i < 3; i++) {
            due(i + 1, x.clash(0, i));
            due(0, x.clash(i + 1, 0));
        }
        due(NOT, x.clash(0, 3));
        due(NOT, x.clash(0, Integer.MAX_VALUE));
        due(2, x.clash(1, -1));
        due(4, x.clash(1, 1));
        due(0, x.clash(5, -1));
        x.off(2);
        due(2, x.clash(0, -1));
        due(3, x.clash(0, 1));
        due(BAD, x.clash(2, -1));
        due(BAD, x.clash(0, -2));
        due(BAD, x.clash(-1, 0));
        due(BAD, x.clash(29, 0));
        for (int far : FAR) {
            due(BAD, x.clash(far, 0));
        }
        start(33, "clash, things");
        x.within(1, 0);
        x.rule(0, 1, 1, 0, -1);
        x.rule(100, 1, 0, 0, -1);
        due(0, x.clash(0, -1));
        x.rule(100, 1, 100, 0, -1);
        due(1, x.clash(0, -1));
        x.rule(0, 1, 101, 0, -1);
        due(0, x.clash(1, -1));
        due(2, x.clash(2, -1));
    }

    private static void join() {
        start(34, "join");
        pairs("0>1,0>2,1>3,2>3,5>1,5>2");
        due(1, x.join(1, 3, 0));
        due(3, x.join(1, 3, 1));
        due(NOT, x.join(1, 2, 0));
        due(3, x.join(1, 2, 1));
        x.senior(6, 0, 1);
        x.senior(5, 1, 0);
        due(0, x.join(1, 2, 0));
        due(0, x.join(2, 1, 0));
        due(7, x.join(7, 7, 0));
        due(7, x.join(7, 7, 1));
        due(NOT, x.join(7, 1, 0));
        due(NOT, x.join(7, 1, 1));
        due(2, x.join(0, 5, 1));
        x.senior(5, 1, 1);
        due(NOT, x.join(0, 5, 1));
        due(BAD, x.join(20, 0, 0));
        due(BAD, x.join(0, 20, 0));
        due(BAD, x.join(-1, 0, 0));
        due(BAD, x.join(0, -1, 0));
        due(BAD, x.join(0, 1, 2));
        due(BAD, x.join(0, 1, -1));
        for (int far : FAR) {
            due(BAD, x.join(far, 0, 0));
            due(BAD, x.join(0, far, 0));
            due(BAD, x.join(0, 0, far));
        }
    }

    private static void roles() {
        start(35, "roles");
        pairs("0>1,1>2,19>1");
        due(6, x.roles(0, 0));
        due(4, x.roles(1, 0));
        due(0, x.roles(2, 0));
        due(0x80003, x.roles(2, 1));
        due(0, x.roles(0, 1));
        x.senior(1, 2, 0);
        due(2, x.roles(0, 0));
        due(0, x.roles(2, 1));
        due(BAD, x.roles(20, 0));
        due(BAD, x.roles(-1, 0));
        due(BAD, x.roles(0, 2));
        due(BAD, x.roles(0, -1));
        for (int far : FAR) {
            due(BAD, x.roles(far, 0));
            due(BAD, x.roles(0, far));
        }
    }

    private static void level() {
        start(36, "level");
        pairs("0>1,1>2,2>3,0>3,5>0");
        due(0, x.level(3));
        due(1, x.level(2));
        due(3, x.level(0));
        due(4, x.level(5));
        due(0, x.level(19));
        x.senior(1, 2, 0);
        due(1, x.level(0));
        due(BAD, x.level(20));
        due(BAD, x.level(-1));
        for (int far : FAR) {
            due(BAD, x.level(far));
        }
        start(36, "level, the highest");
        for (int i = 0; i < 19; i++) {
            x.senior(i + 1, i, 1);
        }
        due(19, x.level(19));
        due(19, x.chain(19, 0, -1));
        due(0, x.chain(19, 0, 19));
    }

    private static void chain() {
        start(37, "chain");
        pairs("0>7,0>5,0>3,7>4,5>4,5>6,3>8,8>4,4>9");
        due(3, x.chain(0, 9, -1));
        int[] way = {0, 5, 4, 9};
        for (int i = 0; i < 4; i++) {
            due(way[i], x.chain(0, 9, i));
        }
        due(NOT, x.chain(0, 9, 4));
        due(NOT, x.chain(0, 9, Integer.MAX_VALUE));
        due(0, x.chain(9, 9, -1));
        due(9, x.chain(9, 9, 0));
        due(NOT, x.chain(9, 9, 1));
        due(NOT, x.chain(9, 0, -1));
        due(NOT, x.chain(9, 0, 0));
        x.senior(0, 4, 1);
        due(2, x.chain(0, 9, -1));
        due(4, x.chain(0, 9, 1));
        due(BAD, x.chain(20, 0, 0));
        due(BAD, x.chain(0, 20, 0));
        due(BAD, x.chain(-1, 0, 0));
        due(BAD, x.chain(0, -1, 0));
        due(BAD, x.chain(0, 9, -2));
        for (int far : FAR) {
            due(BAD, x.chain(far, 0, 0));
            due(BAD, x.chain(0, far, 0));
        }
    }

    private static void under() {
        start(38, "under");
        x.within(1, 0);
        x.within(2, 1);
        x.within(15, 0);
        due(0x8006, x.under(0));
        due(4, x.under(1));
        due(0, x.under(2));
        x.within(1, -1);
        due(0x8000, x.under(0));
        due(BAD, x.under(16));
        due(BAD, x.under(-1));
        for (int far : FAR) {
            due(BAD, x.under(far));
        }
    }

    private static void decides() {
        start(39, "decides");
        x.within(1, 0);
        x.assign(0, 0, 1);
        x.assign(1, 0, 1);
        x.rule(0, 3, 100, 0, -1);
        due(8, x.decides(0, 0));
        due(8, x.decides(0, 1));
        x.rule(0, 1, 0, 0, -1);
        due(0, x.decides(1, 0));
        due(0, x.decides(1, 1));
        due(8, x.decides(0, 0));
        due(6, x.decides(0, 1));
        x.rule(100, 1, 0, 0, -1);
        due(2, x.decides(2, 0));
        due(2, x.decides(2, 1));
        due(6, x.decides(0, 0));
        x.rule(100, 1, 100, 0, -1);
        due(2, x.decides(2, 0));
        due(0, x.decides(2, 1));
        due(2, x.decides(3, 1));
        x.off(2);
        due(4, x.decides(3, 0));
        due(4, x.decides(3, 1));
        x.uses(3, 1);
        x.may(0, 0, 0);
        due(0, x.decides(3, 0));
        due(BAD, x.decides(2, 0));
        due(BAD, x.decides(4, 0));
        due(BAD, x.decides(-1, 0));
        due(BAD, x.decides(0, 2));
        due(BAD, x.decides(0, -1));
        for (int far : FAR) {
            due(BAD, x.decides(far, 0));
            due(BAD, x.decides(0, far));
        }
        start(39, "decides, all");
        for (int i = 0; i < 16; i++) {
            x.assign(i, 3, 1);
            x.within(i, i == 0 ? -1 : i - 1);
        }
        x.rule(3, 255, 100, 0, -1);
        due(2048, x.decides(0, 0));
        due(2048, x.decides(0, 1));
    }

    private static void since() {
        start(40, "since");
        due(STATE, x.since(0));
        due(STATE, x.since(16));
        due(BAD, x.since(17));
        due(BAD, x.since(-1));
        x.assign(0, 0, 1);
        x.assign(1, 0, 1);
        x.rule(0, 7, 0, 0, 10);
        x.image();
        due(0, x.since(16));
        x.step(10);
        due(3, x.since(0));
        due(6, x.since(16));
        x.rule(100, 1, 0, 0, -1);
        x.assign(1, 0, 0);
        due(3, x.since(0));
        due(3, x.since(1));
        due(0, x.since(2));
        x.image();
        due(0, x.since(16));
        x.attribute(0, 2, 0, 1);
        feed("u0");
        x.rule(4, 4, 3, 0, -1);
        x.assign(2, 4, 1);
        due(1, x.since(2));
        for (int far : FAR) {
            due(BAD, x.since(far));
        }
        x.back();
        due(0, x.since(16));
    }

    private static void image() {
        start(41, "image");
        x.assign(0, 0, 1);
        x.exclude(4, 5, 1);
        x.senior(0, 1, 1);
        x.within(1, 0);
        x.attribute(0, 0, 0, 5);
        x.attribute(1, 3, 2, 6);
        x.rule(0, 1, 0, 0, -1);
        x.uses(0, 5);
        x.lend(0, 1, 0, 500, 0);
        x.may(0, 0, 0);
        x.step(7);
        due(7, x.image());
        x.assign(0, 0, 0);
        x.exclude(4, 5, 0);
        x.exclude(6, 7, 1);
        x.exclude(6, 8, 1);
        x.senior(0, 1, 0);
        x.within(1, -1);
        x.attribute(0, 0, 0, 8);
        x.attribute(1, 3, 2, 9);
        x.rule(0, 1, 0, 0, -1);
        x.off(0);
        x.assign(3, 0, 1);
        x.lend(3, 2, 0, 500, 0);
        x.takeBack(1);
        due(1, x.may(3, 0, 0));
        x.step(9);
        x.feed('1');
        start42();
    }

    private static void start42() {
        promise = "42 back";
        due(7, x.back());
        due(7, x.image());
        due(1, x.holds(0, 1));
        due(0, x.holds(3, 1));
        due(3, x.holds(0, 0));
        due(1, x.count(4));
        due(NOT, x.exclude(5, 4, 1));
        due(1, x.count(3));
        due(0, x.within(1, 0));
        due(5, x.attribute(0, 0, 0, 5));
        due(6, x.attribute(1, 3, 2, 6));
        due(1, x.count(0));
        due(BAD, x.of(1, 0));
        due(4, x.left(0));
        due(1, x.count(1));
        due(1, x.count(2));
        due(1, x.count(6));
        due(0, x.book(0, 0));
        due(NOT, x.book(1, 0));
        // THE TAPE and the GROUNDS are as they were ahead of it.
        due(1, x.count(5));
        grounds(1, 1, 2, 0, 4, 3);
        x.step(1);
        due(7, x.back());
        x.step(2);
        due(7, x.back());
        due(1, x.rule(0, 1, 0, 0, -1));
        due(1, x.of(1, 7));
        x.image();
        x.off(1);
        feed("0");
        due(2, x.rule(0, 1, 0, 0, -1));
        x.back();
        due(1, x.of(1, 7));
        due(2, x.rule(0, 1, 0, 0, -1));
        due(0, x.of(2, 7));
        start(42, "back, of none");
        due(STATE, x.back());
        due(0, x.image());
        due(0, x.back());
    }

    private static void count() {
        start(43, "count");
        x.rule(0, 1, 0, 0, -1);
        x.rule(100, 2, 0, 0, -1);
        x.rule(100, 2, 0, 0, -1);
        x.off(2);
        x.assign(0, 0, 1);
        x.lend(0, 1, 0, 5, 3);
        x.lend(0, 2, 0, 9, 3);
        x.lend(0, 3, 0, 9, 3);
        x.step(5);
        pairs("0>1,0>2,0>3,0>4");
        x.exclude(5, 6, 1);
        x.exclude(5, 7, 1);
        x.exclude(5, 8, 1);
        x.exclude(5, 9, 1);
        x.exclude(5, 10, 1);
        feed("123456");
        for (int i = 0; i < 7; i++) {
            x.may(0, 0, 0);
        }
        for (int i = 0; i < 8; i++) {
            x.may(0, 1, 0);
        }
        for (int i = 0; i < 9; i++) {
            x.may(0, 2, 0);
        }
        x.may(0, 8, 0);
        int[] want = {2, 3, 2, 4, 5, 6, 7, 8, 9};
        for (int what = 0; what < 9; what++) {
            due(want[what], x.count(what));
        }
        due(BAD, x.count(9));
        due(BAD, x.count(-1));
        for (int far : FAR) {
            due(BAD, x.count(far));
        }
    }
}
