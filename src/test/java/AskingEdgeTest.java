/** The edges that the third part of the Terms names: what could be, least changes, THE BOOK, AN IMAGE and their like. */
public final class AskingEdgeTest {
    private static final int BAD = -1, NOT = -2, FULL = -3, STATE = -5, EXCLUDED = -6;
    /** By its wrapping it is 0 at even TICKS alone. */
    private static final String AT_ODD_TICKS = "n*512*512*512*16";
    private static final Checks CHECKS = new Checks();

    private static AccessLattice x = new AccessLattice();

    private static void start(String sentence) {
        CHECKS.sentence(sentence);
        x = new AccessLattice();
    }

    private static void due(int want, int got) {
        CHECKS.due(want, got);
    }

    public static void main(String[] args) {
        whoAndWhere();
        couldFarthest();
        couldAnyTick();
        couldByLoans();
        leastNone();
        leastThree();
        leastInOrder();
        leastLastNumbers();
        leastExcluded();
        leastTogether();
        leastOfAllAssigned();
        untilFarthest();
        untilAnother();
        changesFarthest();
        changesMost();
        loseNone();
        loseThree();
        loseInOrder();
        loseLastNumbers();
        loseByLoans();
        ways();
        waysMost();
        idle();
        unlikeMost();
        unlikeByAnswers();
        book();
        bookRound();
        shadowedSame();
        shadowedEdges();
        shadowedThere();
        clashTimes();
        clashThings();
        clashRoles();
        clashMost();
        joins();
        levelsAndChains();
        chainLeast();
        decidesEdges();
        sinceEdges();
        sinceByAnswers();
        sinceItsOwnRules();
        sinceItsOwnLoans();
        askedAtOnce();
        seniorsTexts();
        seniorsLongest();
        seniorsRefused();
        imageKeepsAll();
        imageKeepsUses();
        imageKeepsTheBook();
        imageLeavesTapeAndGrounds();
        imageTwice();
        counts();
        CHECKS.close();
    }

    private static void whoAndWhere() {
        start("USERS that are ALLOWED (way 0), DENIED (1; bits); THINGS (bits) on which a USER is ALLOWED.");
        for (int user = 0; user < 16; user++) {
            x.assign(user, user % 2, 1);
        }
        x.rule(0, 255, 0, 0, -1);
        x.rule(101, 255, 0, 0, -1);
        due(0x5555, x.who(0, 0, 0));
        due(0xaaaa, x.who(7, 0, 1));
        due(0, x.who(0, 15, 0));
        for (int thing = 0; thing < 16; thing++) {
            x.rule(0, 128, thing, 0, -1);
        }
        due(0xffff, x.where(14, 7));
        due(1, x.where(14, 6));
        due(0, x.where(15, 7));
    }

    private static void couldFarthest() {
        start("COULD, to TICK NOW + n (0 .. 200).");
        x.assign(0, 0, 1);
        x.assign(15, 1, 1);
        x.step(3);
        x.rule(0, 1, 0, 203, 204);
        x.rule(1, 1, 0, 204, -1);
        x.rule(1, 2, 0, 3, 4);
        x.rule(0, 2, 0, 2, 3);
        due(BAD, x.could(0, 0, 201));
        due(BAD, x.could(0, 0, -1));
        due(1, x.could(0, 0, 200));
        due(0, x.could(0, 0, 199));
        due(0x8000, x.could(1, 0, 0));
        due(0x8000, x.could(1, 0, 200));
        due(4, x.step(1));
        due(0x8001, x.could(0, 0, 200));
        due(0, x.could(1, 0, 200));
        due(1, x.could(0, 0, 199));
    }

    private static void couldAnyTick() {
        start("USERS (bits) who are ALLOWED at any TICK from NOW to another one.");
        for (int user = 0; user < 16; user++) {
            x.assign(user, 0, 1);
            x.attribute(0, user, 0, 6 * user);
        }
        Calls.feed(x, "u0=n");
        x.rule(0, 1, 0, 0, -1);
        x.rule(100, 1, 0, 12, 13);
        due(1, x.could(0, 0, 0));
        due(1, x.could(0, 0, 5));
        due(3, x.could(0, 0, 6));
        due(3, x.could(0, 0, 17));
        due(11, x.could(0, 0, 18));
        due(0xfffb, x.could(0, 0, 90));
        x.step(7);
        due(0xfff8, x.could(0, 0, 200));
        due(0, x.who(0, 0, 0));
    }

    private static void couldByLoans() {
        start("if nothing else is told: LOANS lapse.");
        x.assign(0, 0, 1);
        x.lend(0, 1, 0, 10, 1);
        x.lend(1, 2, 0, 20, 0);
        Calls.feed(x, "n>8");
        x.rule(0, 1, 0, 0, -1);
        Calls.feed(x, "n>9");
        x.rule(0, 2, 0, 0, -1);
        due(7, x.could(0, 0, 200));
        due(1, x.could(1, 0, 200));
        due(2, x.count(2));
    }

    private static void change(int user, int... want) {
        due(want.length, x.least(user, 0, 0, -1));
        for (int i = 0; i < want.length; i++) {
            due(want[i], x.least(user, 0, 0, i));
        }
        due(NOT, x.least(user, 0, 0, want.length));
        due(NOT, x.least(user, 0, 0, 3));
        due(NOT, x.least(user, 0, 0, Integer.MAX_VALUE));
        due(BAD, x.least(user, 0, 0, -2));
    }

    private static void noChange(int user) {
        for (int i = -1; i < 4; i++) {
            due(NOT, x.least(user, 0, 0, i));
        }
        due(BAD, x.least(user, 0, 0, -2));
    }

    private static void leastNone() {
        start("LEAST CHANGE: how many CHANGES (i -1; 0: it is ALLOWED).");
        noChange(0);
        x.rule(100, 1, 0, 0, -1);
        noChange(0);
        x.rule(0, 1, 1, 0, -1);
        x.rule(0, 2, 0, 0, -1);
        x.rule(0, 1, 0, 1, -1);
        Calls.condition(x, "0");
        noChange(0);
        x.rule(0, 1, 0, 0, -1);
        change(0, 0, 100);
        x.off(0);
        change(0, 0);
        x.assign(0, 0, 1);
        change(0);
    }

    private static void leastThree() {
        start("the fewest (3 at most) CHANGES by which it would be; NOT: three do not do.");
        x.rule(0, 1, 0, 0, -1);
        for (int i = 1; i <= 2; i++) {
            x.rule(100, 1, 0, 0, -1);
        }
        change(0, 0, 101, 102);
        x.assign(0, 0, 1);
        change(0, 101, 102);
        x.rule(100, 1, 0, 0, -1);
        change(0, 101, 102, 103);
        noChange(1);
        x.rule(100, 1, 0, 0, -1);
        noChange(0);
        x.off(2);
        change(0, 101, 103, 104);
        noChange(1);
        x.off(1);
        change(1, 0, 103, 104);
    }

    private static void leastInOrder() {
        start("Of like many the first by their numbers in order.");
        x.rule(9, 1, 0, 0, -1);
        x.rule(5, 1, 0, 0, -1);
        x.senior(7, 9, 1);
        change(0, 5);
        x.senior(2, 7, 1);
        change(0, 2);
        x.rule(102, 1, 0, 0, -1);
        change(0, 5);
        x.rule(105, 1, 0, 0, -1);
        change(0, 7);
        x.rule(107, 1, 0, 0, -1);
        change(0, 9);
        x.rule(109, 1, 0, 0, -1);
        change(0, 5, 103);
        x.off(3);
        x.rule(105, 1, 0, 0, -1);
        x.rule(105, 1, 0, 0, -1);
        change(0, 9, 105);
    }

    private static void leastLastNumbers() {
        start("CHANGE r (0 .. 19); CHANGE 100 and a RULE's number.");
        for (int i = 0; i < 28; i++) {
            x.rule(100, 2, 0, 0, -1);
        }
        x.rule(19, 1, 0, 0, -1);
        change(15, 19);
        x.rule(119, 1, 0, 0, -1);
        change(15, 19, 129);
        x.assign(15, 19, 1);
        change(15, 129);
    }

    private static void leastExcluded() {
        start("by which it, with all of these CHANGES, would HOLD no EXCLUDED pair.");
        x.rule(5, 1, 0, 0, -1);
        x.senior(1, 5, 1);
        x.senior(1, 2, 1);
        x.senior(4, 5, 1);
        x.exclude(2, 5, 1);
        change(0, 4);
        x.exclude(4, 9, 1);
        x.assign(0, 9, 1);
        change(0, 5);
        x.exclude(5, 10, 1);
        x.assign(1, 10, 1);
        noChange(1);
        x.lend(1, 0, 10, 30, 0);
        noChange(0);
        x.step(30);
        change(0, 5);
        due(EXCLUDED, x.assign(0, 4, 1));
        due(2, x.assign(0, 5, 1));
        change(0);
    }

    private static void leastTogether() {
        start("a DENY that is there goes: of those that the new ROLE brings, too.");
        x.rule(5, 1, 0, 0, -1);
        x.senior(2, 5, 1);
        x.senior(2, 6, 1);
        x.rule(106, 1, 100, 0, -1);
        change(0, 5);
        x.rule(105, 1, 0, 0, -1);
        change(0, 5, 102);
        x.exclude(5, 7, 1);
        x.exclude(7, 2, 1);
        x.assign(1, 7, 1);
        noChange(1);
        x.assign(2, 6, 1);
        change(2, 2, 101, 102);
        due(2, x.off(1));
        change(2, 2, 102);
    }

    private static void leastOfAllAssigned() {
        start("the fewest CHANGES for who is ASSIGNED all ROLES.");
        for (int i = 0; i < 20; i++) {
            x.assign(0, i, 1);
        }
        x.rule(19, 1, 0, 0, -1);
        change(0);
        x.rule(119, 1, 0, 0, -1);
        change(0, 101);
        x.rule(100, 1, 0, 0, -1);
        change(0, 101, 102);
        x.rule(110, 1, 0, 0, -1);
        change(0, 101, 102, 103);
        x.rule(110, 1, 0, 0, -1);
        noChange(0);
        x.off(0);
        noChange(0);
    }

    private static void untilFarthest() {
        start("The first TICK from NOW on (200 at most behind it) at which the ANSWER is another one than NOW.");
        x.assign(0, 0, 1);
        x.rule(0, 1, 0, 200, -1);
        x.rule(0, 2, 0, 201, -1);
        x.rule(0, 4, 0, 1, 2);
        due(200, x.until(0, 0, 0));
        due(NOT, x.until(0, 1, 0));
        due(1, x.until(0, 2, 0));
        due(NOT, x.until(1, 0, 0));
        x.step(1);
        due(201, x.until(0, 1, 0));
        due(2, x.until(0, 2, 0));
        x.step(1);
        due(NOT, x.until(0, 2, 0));
    }

    private static void untilAnother() {
        start("the ANSWER is another one: NOTHING, ALLOWED, DENIED.");
        x.assign(0, 0, 1);
        x.rule(0, 1, 0, 0, 10);
        x.rule(0, 1, 0, 10, 20);
        x.rule(100, 1, 0, 20, 30);
        x.rule(100, 1, 0, 30, 40);
        due(20, x.until(0, 0, 0));
        due(2, x.changes(0, 0, 0, -1));
        x.step(20);
        due(40, x.until(0, 0, 0));
        x.step(20);
        due(NOT, x.until(0, 0, 0));
        x.rule(100, 1, 0, 41, -1);
        due(41, x.until(0, 0, 0));
    }

    private static void changesFarthest() {
        start("The i-th TICK behind NOW (200 at most) at which the ANSWER is another one than on the TICK ahead of it.");
        x.assign(0, 0, 1);
        x.step(5);
        x.rule(0, 1, 0, 5, 6);
        x.rule(0, 1, 0, 204, 205);
        x.rule(0, 2, 0, 0, 5);
        due(3, x.changes(0, 0, 0, -1));
        due(6, x.changes(0, 0, 0, 0));
        due(204, x.changes(0, 0, 0, 1));
        due(205, x.changes(0, 0, 0, 2));
        due(NOT, x.changes(0, 0, 0, 3));
        due(BAD, x.changes(0, 0, 0, -2));
        due(0, x.changes(0, 1, 0, -1));
        due(NOT, x.changes(0, 1, 0, 0));
        x.rule(0, 4, 0, 206, -1);
        due(0, x.changes(0, 2, 0, -1));
        x.step(1);
        due(1, x.changes(0, 2, 0, -1));
        due(206, x.changes(0, 2, 0, 0));
        due(2, x.changes(0, 0, 0, -1));
    }

    private static void changesMost() {
        start("i -1: how many such.");
        x.assign(0, 0, 1);
        Calls.condition(x, AT_ODD_TICKS);
        due(200, x.changes(0, 0, 0, -1));
        due(1, x.changes(0, 0, 0, 0));
        due(200, x.changes(0, 0, 0, 199));
        due(NOT, x.changes(0, 0, 0, 200));
        due(NOT, x.changes(0, 0, 0, Integer.MAX_VALUE));
        due(1, x.until(0, 0, 0));
        x.step(1);
        due(200, x.changes(0, 0, 0, -1));
        due(2, x.changes(0, 0, 0, 0));
        due(201, x.changes(0, 0, 0, 199));
    }

    private static void loss(int user, int... want) {
        due(want.length, x.lose(user, 0, 0, -1));
        for (int i = 0; i < want.length; i++) {
            due(want[i], x.lose(user, 0, 0, i));
        }
        due(NOT, x.lose(user, 0, 0, want.length));
        due(NOT, x.lose(user, 0, 0, 3));
        due(NOT, x.lose(user, 0, 0, Integer.MAX_VALUE));
        due(BAD, x.lose(user, 0, 0, -2));
    }

    private static void noLoss(int user) {
        for (int i = -1; i < 4; i++) {
            due(NOT, x.lose(user, 0, 0, i));
        }
        due(BAD, x.lose(user, 0, 0, -2));
    }

    private static void loseNone() {
        start("LEAST LOSS: how many LOSSES (i -1; 0: it is not ALLOWED).");
        loss(0);
        x.rule(0, 1, 0, 0, -1);
        x.rule(101, 1, 0, 0, -1);
        loss(0);
        x.assign(0, 0, 1);
        loss(0, 0);
        x.assign(0, 1, 1);
        loss(0);
        x.assign(0, 1, 0);
        x.uses(0, 1);
        loss(0, 0);
        x.may(0, 0, 0);
        loss(0);
    }

    private static void loseThree() {
        start("the fewest (3 at most) LOSSES by which it would not be; NOT: three do not do.");
        for (int i = 0; i < 4; i++) {
            x.assign(0, i, 1);
            x.rule(i, 1, 0, 0, -1);
            if (i == 2) {
                loss(0, 0, 1, 2);
            }
        }
        noLoss(0);
        x.assign(0, 1, 0);
        loss(0, 0, 2, 3);
        x.assign(0, 1, 1);
        x.off(0);
        loss(0, 1, 2, 3);
        x.rule(2, 1, 0, 0, -1);
        loss(0, 1, 2, 3);
        x.rule(2, 1, 1, 0, -1);
        x.rule(2, 2, 0, 0, -1);
        x.rule(2, 1, 0, 1, -1);
        loss(0, 1, 2, 3);
        x.senior(4, 2, 1);
        x.assign(0, 4, 1);
        noLoss(0);
        x.off(4);
        loss(0, 1, 3, 202);
    }

    private static void loseInOrder() {
        start("LEAST LOSS: of like many the first by their numbers in order.");
        x.rule(3, 1, 0, 0, -1);
        x.assign(0, 3, 1);
        loss(0, 3);
        x.assign(1, 3, 1);
        x.lend(1, 0, 3, 50, 0);
        loss(0, 200);
        x.rule(3, 1, 0, 0, -1);
        loss(0, 3, 100);
        x.lend(1, 0, 3, 9, 0);
        loss(0, 200, 201);
        x.rule(3, 1, 0, 0, -1);
        loss(0, 3, 100, 101);
        x.assign(0, 3, 0);
        loss(0, 100, 101);
        x.step(9);
        loss(0, 100);
        x.assign(0, 5, 1);
        x.senior(5, 3, 1);
        loss(0, 5, 100);
    }

    private static void loseLastNumbers() {
        start("r (0 .. 19); 100 and a LOAN's number; 200 and a RULE's number.");
        x.assign(15, 19, 1);
        for (int i = 0; i < 29; i++) {
            x.rule(19, 2, 0, 0, -1);
        }
        x.rule(19, 1, 0, 0, -1);
        loss(15, 19);
        for (int i = 0; i < 40; i++) {
            x.lend(15, 14, 19, i < 39 ? 1 : 50, 0);
        }
        loss(14, 200 + 29);
        x.step(1);
        loss(14, 139);
        x.assign(14, 19, 1);
        loss(14, 229);
    }

    private static void loseByLoans() {
        start("a LOAN (to anybody) that STANDS is TAKEN BACK.");
        x.rule(0, 1, 0, 0, -1);
        x.rule(0, 1, 0, 0, -1);
        x.assign(0, 0, 1);
        x.assign(5, 0, 1);
        x.lend(5, 6, 0, 50, 5);
        x.lend(0, 1, 0, 50, 5);
        x.lend(1, 2, 0, 50, 4);
        x.lend(2, 3, 0, 50, 3);
        x.lend(2, 3, 0, 50, 3);
        loss(3, 101);
        x.lend(0, 2, 0, 50, 5);
        loss(3, 101);
        x.lend(0, 3, 0, 50, 5);
        loss(3, 101, 106);
        loss(0, 0);
        x.takeBack(1);
        loss(3, 106);
        loss(2, 105);
        loss(6, 100);
    }

    private static void ways() {
        start("in how many ways one can go from a ROLE that it is ASSIGNED, or from one of a LOAN to it that STANDS (each "
                + "LOAN by itself), by SENIOR pairs down to the ROLE (0 of these, too).");
        due(0, x.ways(0, 0));
        x.assign(0, 0, 1);
        due(1, x.ways(0, 0));
        due(0, x.ways(0, 19));
        x.assign(1, 0, 1);
        for (int i = 0; i < 40; i++) {
            x.lend(1, 0, 0, i < 20 ? 5 : 6, 0);
        }
        due(41, x.ways(0, 0));
        x.step(5);
        due(21, x.ways(0, 0));
        x.senior(0, 19, 1);
        due(21, x.ways(0, 19));
        x.takeBack(39);
        due(20, x.ways(0, 19));
        x.assign(1, 0, 0);
        due(1, x.ways(0, 19));
        due(0, x.ways(1, 19));
    }

    private static void waysMost() {
        start("WAYS by 40 pairs.");
        int pairs = 0;
        for (int layer = 0; layer < 6; layer++) {
            for (int i = 0; i < 9 && pairs < 40; i++) {
                pairs = x.senior(3 * layer + i / 3, 3 * layer + 3 + i % 3, 1);
            }
        }
        due(40, pairs);
        x.assign(0, 0, 1);
        due(1, x.ways(0, 3));
        due(27, x.ways(0, 12));
        due(54, x.ways(0, 15));
        for (int i = 1; i < 20; i++) {
            x.assign(0, i, 1);
        }
        due(1, x.ways(0, 0));
        due(4, x.ways(0, 5));
        due(1 + 2 + 3 * 2 + 3 * 6 + 3 * 18 + 3 * 54, x.ways(0, 15));
    }

    private static void idle() {
        start("IDLE ROLES of a USER: those it HOLDS that no GRANT that is there (whenever, whatever its CONDITION) names.");
        for (int i = 0; i < 19; i++) {
            x.senior(i + 1, i, 1);
        }
        due(0, x.idle(0));
        x.assign(0, 19, 1);
        due((1 << 20) - 1, x.idle(0));
        x.rule(0, 1, 0, 9999, -1);
        x.step(2);
        x.rule(1, 1, 0, 0, 1);
        Calls.feed(x, "0");
        x.rule(2, 1, 0, 0, -1);
        x.rule(19, 1, 0, 0, -1);
        x.uses(3, 1);
        x.may(0, 0, 0);
        due(0, x.left(3));
        x.rule(104, 255, 100, 0, -1);
        x.rule(5, 1, 0, 0, -1);
        x.off(5);
        due((1 << 20) - 1 - 7 - (1 << 19), x.idle(0));
        x.assign(1, 1, 1);
        x.lend(0, 1, 5, 9, 0);
        due(56, x.idle(1));
        x.step(7);
        due(0, x.idle(1));
    }

    private static void unlikeMost() {
        start("UNLIKE: how many pairs (i -1), the i-th (16 times the ACT, and the THING).");
        due(0, x.unlike(0, 15, -1));
        due(NOT, x.unlike(0, 15, 0));
        for (int i = 0; i < 16; i++) {
            x.rule(i % 2 * 100, 255, i, 0, -1);
        }
        x.assign(15, 0, 1);
        due(128, x.unlike(0, 15, -1));
        due(128, x.unlike(15, 0, -1));
        for (int i = 0; i < 128; i++) {
            due(i, x.unlike(0, 15, i));
        }
        due(NOT, x.unlike(0, 15, 128));
        due(NOT, x.unlike(0, 15, Integer.MAX_VALUE));
        due(BAD, x.unlike(0, 15, -2));
        due(0, x.unlike(15, 15, -1));
        x.assign(0, 0, 1);
        due(0, x.unlike(0, 15, -1));
        x.off(15);
        x.off(0);
        due(NOT, x.unlike(0, 15, 0));
    }

    private static void unlikeByAnswers() {
        start("UNLIKE: pairs for which their ANSWERS are not the same, whatever the RULES that they are by.");
        x.assign(0, 0, 1);
        x.assign(1, 1, 1);
        x.rule(0, 1, 0, 0, -1);
        x.rule(1, 1, 0, 0, -1);
        x.rule(100, 2, 0, 0, -1);
        x.rule(101, 2, 0, 0, -1);
        due(0, x.unlike(0, 1, -1));
        due(NOT, x.unlike(0, 1, 0));
        x.off(3);
        due(1, x.unlike(0, 1, -1));
        due(16, x.unlike(0, 1, 0));
        x.rule(1, 2, 0, 0, -1);
        due(16, x.unlike(1, 0, 0));
    }

    private static void book() {
        start("THE BOOK: the latest 30 may(): TICK, USER, ACT, THING, ANSWER, RULE (-1: none).");
        due(NOT, x.book(0, 0));
        due(BAD, x.book(0, 6));
        due(BAD, x.book(-1, 0));
        x.rule(1, 1, 0, 0, -1);
        x.rule(101, 128, 15, 0, -1);
        x.assign(15, 1, 1);
        x.may(15, 0, 0);
        x.step(500);
        x.may(15, 7, 15);
        x.may(0, 3, 9);
        due(BAD, x.may(15, 7, 16));
        int[][] rows = {{0, 15, 0, 0, 1, 0}, {500, 15, 7, 15, 2, 1}, {500, 0, 3, 9, 0, -1}};
        for (int i = 0; i < 3; i++) {
            for (int what = 0; what < 6; what++) {
                due(rows[i][what], x.book(i, what));
            }
        }
        due(NOT, x.book(3, 0));
        x.off(1);
        due(1, x.book(1, 5));
        due(2, x.book(1, 4));
    }

    private static void bookRound() {
        start("Of the i-th in THE BOOK (from 0, the oldest first).");
        for (int i = 0; i < 95; i++) {
            x.may(i % 16, i % 8, i / 8);
            x.step(1);
            int most = Math.min(i, 29);
            due(i, x.book(most, 0));
            due(Math.max(0, i - 29), x.book(0, 0));
            due(NOT, x.book(most + 1, 0));
        }
        for (int i = 0; i < 30; i++) {
            due(65 + i, x.book(i, 0));
            due((65 + i) % 16, x.book(i, 1));
            due((65 + i) % 8, x.book(i, 2));
            due((65 + i) / 8, x.book(i, 3));
        }
        due(NOT, x.book(30, 0));
        due(95, x.count(8));
    }

    private static void shadowedSame() {
        start("of two that are so of each other the lesser one is not.");
        x.rule(0, 1, 0, 0, -1);
        due(NOT, x.shadowed(0));
        x.rule(0, 1, 0, 0, -1);
        x.rule(0, 1, 0, 0, -1);
        due(NOT, x.shadowed(0));
        due(0, x.shadowed(1));
        due(0, x.shadowed(2));
        x.off(0);
        due(BAD, x.shadowed(0));
        due(NOT, x.shadowed(1));
        due(1, x.shadowed(2));
        Calls.condition(x, "1");
        due(1, x.shadowed(3));
        due(NOT, x.shadowed(1));
        x.off(2);
        Calls.condition(x, "1");
        x.off(1);
        due(NOT, x.shadowed(3));
        due(NOT, x.shadowed(4));
        x.rule(0, 1, 0, 0, -1);
        due(5, x.shadowed(3));
        due(5, x.shadowed(4));
    }

    /** Whether RULE 0, of ROLE 1, ACTS 3, THING 1 DEEP or not, from 5 to 9, is SHADOWED by another one. */
    private static void shadow(boolean is, int[] rule, int... other) {
        x = new AccessLattice();
        Calls.pairs(x, "0>1,1>2,2>3");
        x.within(1, 0);
        x.within(0, 15);
        x.within(2, 1);
        x.rule(rule[0], rule[1], rule[2], rule[3], rule[4]);
        x.rule(other[0], other[1], other[2], other[3], other[4]);
        due(is ? 1 : NOT, x.shadowed(0));
        due(is ? NOT : x.shadowed(1), x.shadowed(1));
    }

    private static void shadowedEdges() {
        start("whose ROLE is its or one that its is SENIOR to; whose ACTS have all of its; whose THING is its with DEEP no "
                + "less, or one that it is BELOW, with DEEP; whose FROM is not later, TO not earlier.");
        int[] flat = {1, 3, 1, 5, 9};
        int[] deep = {1, 3, 101, 5, 9};
        int[] deny = {101, 3, 1, 5, 9};
        shadow(true, flat, 2, 3, 1, 5, 9);
        shadow(true, flat, 3, 3, 1, 5, 9);
        shadow(false, flat, 0, 3, 1, 5, 9);
        shadow(false, flat, 4, 3, 1, 5, 9);
        shadow(false, flat, 102, 3, 1, 5, 9);
        shadow(true, deny, 102, 3, 1, 5, 9);
        shadow(false, deny, 2, 3, 1, 5, 9);
        shadow(true, flat, 1, 7, 1, 5, 9);
        shadow(true, flat, 1, 255, 1, 5, 9);
        shadow(false, flat, 1, 1, 1, 5, 9);
        shadow(false, flat, 1, 254, 1, 5, 9);
        shadow(true, flat, 1, 3, 101, 5, 9);
        shadow(true, flat, 1, 3, 100, 5, 9);
        shadow(true, flat, 1, 3, 115, 5, 9);
        shadow(false, flat, 1, 3, 0, 5, 9);
        shadow(false, flat, 1, 3, 102, 5, 9);
        shadow(false, deep, 1, 3, 1, 5, 9);
        shadow(true, deep, 2, 3, 101, 5, 9);
        shadow(true, deep, 1, 3, 100, 5, 9);
        shadow(false, deep, 1, 3, 0, 5, 9);
        shadow(false, deep, 1, 3, 102, 5, 9);
        shadow(true, flat, 1, 3, 1, 4, 9);
        shadow(false, flat, 1, 3, 1, 6, 9);
        shadow(true, flat, 1, 3, 1, 5, 10);
        shadow(true, flat, 1, 3, 1, 5, -1);
        shadow(false, flat, 1, 3, 1, 5, 8);
        int[] forEver = {1, 3, 1, 5, -1};
        shadow(true, forEver, 1, 3, 1, 4, -1);
        shadow(false, forEver, 1, 3, 1, 4, 9999);
        shadow(false, forEver, 1, 3, 1, 4, Integer.MAX_VALUE);
    }

    private static void shadowedThere() {
        start("SHADOWED: by another one of its KIND that is there; the least RULE.");
        Calls.condition(x, "u0");
        x.rule(0, 1, 1, 0, -1);
        x.rule(0, 1, 100, 0, -1);
        x.rule(0, 1, 0, 0, -1);
        due(2, x.shadowed(0));
        due(NOT, x.shadowed(1));
        due(NOT, x.shadowed(2));
        due(2, x.shadowed(3));
        x.uses(2, 1);
        x.assign(0, 0, 1);
        x.may(0, 0, 0);
        due(0, x.left(2));
        due(2, x.shadowed(0));
        x.off(2);
        due(3, x.shadowed(0));
        x.off(3);
        due(NOT, x.shadowed(0));
    }

    private static void clashes(int want, int[] one, int[] other) {
        x = new AccessLattice();
        Calls.pairs(x, "0>1,0>2,3>0");
        x.within(1, 0);
        x.within(2, 1);
        x.rule(one[0], one[1], one[2], one[3], one[4]);
        x.rule(other[0], other[1], other[2], other[3], other[4]);
        for (int rule = 0; rule < 2; rule++) {
            due(want, x.clash(rule, -1));
            due(want == 1 ? 1 - rule : NOT, x.clash(rule, 0));
            due(NOT, x.clash(rule, 1));
            due(BAD, x.clash(rule, -2));
        }
    }

    private static void clashTimes() {
        start("CLASH: a GRANT and a DENY have an ACT in common, times in common.");
        int[] grant = {1, 3, 0, 5, 10};
        clashes(1, grant, new int[] {101, 3, 0, 5, 10});
        clashes(0, grant, new int[] {1, 3, 0, 5, 10});
        clashes(1, grant, new int[] {101, 2, 0, 5, 10});
        clashes(1, grant, new int[] {101, 129, 0, 5, 10});
        clashes(0, grant, new int[] {101, 252, 0, 5, 10});
        clashes(1, grant, new int[] {101, 3, 0, 9, 20});
        clashes(0, grant, new int[] {101, 3, 0, 10, 20});
        clashes(1, grant, new int[] {101, 3, 0, 0, 6});
        clashes(0, grant, new int[] {101, 3, 0, 0, 5});
        clashes(1, grant, new int[] {101, 3, 0, 0, -1});
        clashes(1, grant, new int[] {101, 3, 0, 9, -1});
        clashes(0, grant, new int[] {101, 3, 0, 10, -1});
        int[] forEver = {101, 3, 0, 9999, -1};
        clashes(1, forEver, new int[] {1, 3, 0, 0, -1});
        clashes(1, forEver, new int[] {1, 3, 0, 0, Integer.MAX_VALUE});
        clashes(0, forEver, new int[] {1, 3, 0, 0, 9999});
        clashes(1, forEver, new int[] {1, 3, 0, 0, 10000});
    }

    private static void clashThings() {
        start("THINGS in common (one's THING is the other's, or BELOW it, that one DEEP).");
        int[] flat = {1, 1, 1, 0, -1};
        int[] deep = {1, 1, 101, 0, -1};
        clashes(1, flat, new int[] {101, 1, 1, 0, -1});
        clashes(1, flat, new int[] {101, 1, 101, 0, -1});
        clashes(1, flat, new int[] {101, 1, 100, 0, -1});
        clashes(0, flat, new int[] {101, 1, 0, 0, -1});
        clashes(0, flat, new int[] {101, 1, 2, 0, -1});
        clashes(0, flat, new int[] {101, 1, 102, 0, -1});
        clashes(0, flat, new int[] {101, 1, 103, 0, -1});
        clashes(1, deep, new int[] {101, 1, 1, 0, -1});
        clashes(1, deep, new int[] {101, 1, 2, 0, -1});
        clashes(1, deep, new int[] {101, 1, 102, 0, -1});
        clashes(1, deep, new int[] {101, 1, 100, 0, -1});
        clashes(0, deep, new int[] {101, 1, 0, 0, -1});
        clashes(0, deep, new int[] {101, 1, 115, 0, -1});
    }

    private static void clashRoles() {
        start("a ROLE that is both's, or SENIOR to both's (each itself counts), directly or not.");
        int[] one = {1, 1, 0, 0, -1};
        clashes(1, one, new int[] {101, 1, 0, 0, -1});
        clashes(1, one, new int[] {100, 1, 0, 0, -1});
        clashes(1, one, new int[] {103, 1, 0, 0, -1});
        clashes(1, one, new int[] {102, 1, 0, 0, -1});
        clashes(0, one, new int[] {104, 1, 0, 0, -1});
        x = new AccessLattice();
        x.rule(19, 1, 0, 0, -1);
        x.rule(118, 1, 0, 0, -1);
        due(0, x.clash(0, -1));
        x.senior(17, 18, 1);
        x.senior(16, 19, 1);
        due(0, x.clash(0, -1));
        x.senior(17, 16, 1);
        due(1, x.clash(0, -1));
        Calls.feed(x, "0");
        x.rule(119, 1, 0, 0, -1);
        due(2, x.clash(0, -1));
        x.off(1);
        due(1, x.clash(0, -1));
        due(2, x.clash(0, 0));
        due(NOT, x.clash(0, 1));
    }

    private static void clashMost() {
        start("How many RULES a RULE CLASHES with (i -1), the i-th.");
        x.rule(0, 1, 0, 0, -1);
        for (int i = 1; i < 30; i++) {
            x.rule(100, 1, 0, 0, -1);
        }
        due(29, x.clash(0, -1));
        for (int i = 0; i < 29; i++) {
            due(i + 1, x.clash(0, i));
        }
        due(NOT, x.clash(0, 29));
        due(NOT, x.clash(0, Integer.MAX_VALUE));
        due(BAD, x.clash(0, -2));
        due(BAD, x.clash(30, -1));
        due(1, x.clash(29, -1));
        due(0, x.clash(29, 0));
    }

    private static void joins() {
        start("JOIN: the one that is each of them or SENIOR to it, and that all others that are so are or are SENIOR to; "
                + "MEET likewise the other way about; NOT: there is none such.");
        Calls.pairs(x, "19>1,19>2,1>0,2>0");
        for (int r = 0; r < 20; r++) {
            due(r, x.join(r, r, 0));
            due(r, x.join(r, r, 1));
        }
        due(19, x.join(1, 2, 0));
        due(0, x.join(1, 2, 1));
        due(19, x.join(19, 0, 0));
        due(0, x.join(19, 0, 1));
        due(1, x.join(1, 0, 0));
        due(0, x.join(0, 2, 1));
        due(NOT, x.join(3, 1, 0));
        due(NOT, x.join(3, 1, 1));
        Calls.pairs(x, "18>1,18>2,1>17,2>17");
        due(NOT, x.join(1, 2, 0));
        due(NOT, x.join(1, 2, 1));
        x.senior(18, 19, 1);
        x.senior(0, 17, 1);
        due(19, x.join(1, 2, 0));
        due(0, x.join(1, 2, 1));
        x.senior(4, 18, 1);
        due(19, x.join(1, 2, 0));
        due(4, x.join(4, 1, 0));
    }

    private static void levelsAndChains() {
        start("LEVEL: 0, if it is SENIOR to none; otherwise one more than the greatest of those it is directly SENIOR to.");
        for (int i = 19; i > 0; i--) {
            x.senior(i, i - 1, 1);
        }
        for (int i = 0; i < 20; i++) {
            due(i, x.level(i));
            due(i, x.chain(i, 0, -1));
            due(19 - i, x.chain(19, 0, i));
            due(i == 0 ? 0 : NOT, x.chain(0, i, -1));
        }
        due(NOT, x.chain(19, 0, 20));
        due(NOT, x.chain(19, 0, Integer.MAX_VALUE));
        due(BAD, x.chain(19, 0, -2));
        x.senior(19, 0, 1);
        due(19, x.level(19));
        due(1, x.chain(19, 0, -1));
        due(NOT, x.chain(19, 0, 2));
        x.senior(19, 18, 0);
        due(1, x.level(19));
        due(NOT, x.chain(19, 18, -1));
    }

    private static void chainLeast() {
        start("the i-th ROLE of that way (0: the first itself; of like ones the least numbers, from the first on).");
        Calls.pairs(x, "0>3,0>2,2>9,3>1,9>5,1>5,5>6");
        int[] way = {0, 2, 9, 5, 6};
        due(4, x.chain(0, 6, -1));
        for (int i = 0; i < 5; i++) {
            due(way[i], x.chain(0, 6, i));
        }
        x.senior(3, 5, 1);
        due(3, x.chain(0, 6, -1));
        due(3, x.chain(0, 6, 1));
        due(0, x.chain(6, 6, -1));
        due(6, x.chain(6, 6, 0));
        due(NOT, x.chain(6, 6, 1));
        due(NOT, x.chain(6, 0, -1));
        due(NOT, x.chain(6, 0, 0));
        due(NOT, x.chain(6, 7, -1));
    }

    private static void decidesEdges() {
        start("how many ANSWERS are by a RULE (what 0); how many would be others, if it were off (1).");
        x.rule(0, 255, 100, 0, -1);
        due(0, x.decides(0, 0));
        x.assign(15, 0, 1);
        due(8, x.decides(0, 0));
        due(8, x.decides(0, 1));
        for (int i = 1; i < 16; i++) {
            x.within(i, 0);
            x.assign(i - 1, 0, 1);
        }
        due(2048, x.decides(0, 0));
        due(2048, x.decides(0, 1));
        x.rule(0, 128, 15, 0, -1);
        due(0, x.decides(1, 0));
        due(0, x.decides(1, 1));
        due(2032, x.decides(0, 1));
        x.rule(100, 255, 115, 0, -1);
        due(128, x.decides(2, 0));
        due(128, x.decides(2, 1));
        due(1920, x.decides(0, 0));
        x.rule(100, 128, 15, 0, -1);
        due(0, x.decides(3, 0));
        due(112, x.decides(2, 1));
        due(128, x.decides(2, 0));
        due(3, x.off(2));
        due(BAD, x.decides(2, 0));
        due(16, x.decides(3, 0));
        due(0, x.count(6));
    }

    private static void sinceEdges() {
        start("How many ANSWERS of a USER (16: of all) are others now than by AN IMAGE as it is kept (at its own NOW).");
        due(STATE, x.since(0));
        due(BAD, x.since(17));
        due(0, x.image());
        for (int i = 0; i < 16; i++) {
            x.assign(i, 0, 1);
            x.within(i, i == 0 ? -1 : 0);
        }
        x.rule(0, 255, 100, 7, 9);
        due(0, x.since(16));
        x.step(7);
        due(2048, x.since(16));
        due(128, x.since(0));
        due(128, x.since(15));
        due(BAD, x.since(-1));
        due(7, x.image());
        due(0, x.since(16));
        x.rule(100, 1, 0, 0, -1);
        due(16, x.since(16));
        due(1, x.since(15));
        x.step(2);
        due(2048, x.since(16));
        x.back();
        due(0, x.since(16));
        due(1, x.count(0));
    }

    private static void sinceByAnswers() {
        start("ANSWERS that are others now: not those by another RULE alone.");
        x.assign(2, 0, 1);
        x.rule(0, 1, 3, 0, -1);
        x.rule(0, 1, 3, 0, -1);
        x.rule(100, 2, 3, 0, -1);
        x.rule(100, 2, 3, 0, -1);
        x.image();
        x.off(0);
        x.off(2);
        due(0, x.since(2));
        due(0, x.since(16));
        x.off(1);
        due(1, x.since(2));
        x.rule(100, 1, 3, 0, -1);
        due(1, x.since(16));
        x.off(3);
        due(2, x.since(16));
    }

    private static void sinceItsOwnRules() {
        start("by AN IMAGE as it is kept: its own RULES, ROLES, THINGS, ATTRIBUTES.");
        x.within(2, 1);
        x.senior(3, 4, 1);
        x.assign(5, 3, 1);
        x.attribute(0, 5, 1, 8);
        x.attribute(1, 2, 2, 9);
        Calls.feed(x, "u1=8&t2=9&d=1&n=6");
        x.rule(4, 1, 101, 3, 7);
        x.rule(103, 2, 1, 0, 9);
        x.rule(4, 4, 1, 0, -1);
        x.rule(4, 8, 1, 7, 8);
        x.uses(2, 1);
        x.may(5, 2, 1);
        x.step(6);
        due(6, x.image());
        due(0, x.since(16));
        x.attribute(0, 5, 1, 7);
        due(1, x.since(5));
        x.attribute(0, 5, 1, 8);
        x.attribute(1, 2, 2, 7);
        due(1, x.since(5));
        x.attribute(1, 2, 2, 9);
        x.within(2, 3);
        due(1, x.since(5));
        x.within(2, 1);
        due(0, x.since(5));
        x.uses(2, 1);
        due(1, x.since(5));
        x.uses(0, 1);
        x.may(5, 0, 2);
        due(2, x.since(5));
        x.step(1);
        due(3, x.since(5));
        x.off(1);
        due(4, x.since(5));
        x.off(2);
        due(3, x.since(16));
        x.assign(5, 3, 0);
        due(2, x.since(16));
        x.back();
        due(0, x.since(16));
        x.senior(3, 4, 0);
        due(1, x.since(5));
        x.back();
        due(0, x.since(5));
        due(2, x.may(5, 1, 1));
        due(1, x.may(5, 0, 2));
    }

    private static void sinceItsOwnLoans() {
        start("by AN IMAGE as it is kept: its own LOANS, at its own NOW.");
        x.assign(3, 9, 1);
        x.rule(9, 1, 0, 0, -1);
        x.step(2);
        x.lend(3, 5, 9, 8, 4);
        x.lend(3, 5, 9, 6, 3);
        x.lend(5, 7, 9, 7, 2);
        x.lend(3, 8, 9, 90, 2);
        x.takeBack(3);
        x.step(2);
        x.image();
        due(0, x.since(16));
        x.step(2);
        due(0, x.since(16));
        x.step(1);
        due(1, x.since(7));
        due(1, x.since(16));
        x.step(1);
        due(1, x.since(5));
        due(0, x.since(3));
        due(2, x.since(16));
        x.lend(3, 8, 9, 90, 2);
        due(1, x.since(8));
        due(3, x.since(16));
        x.back();
        due(0, x.since(16));
        x.takeBack(0);
        due(0, x.since(5));
        due(1, x.since(7));
        x.assign(3, 9, 0);
        due(3, x.since(16));
        x.image();
        due(0, x.since(16));
        x.assign(3, 9, 1);
        due(2, x.since(16));
    }

    /** What is asked for right behind what takes a ROLE, or gives it. */
    private static void asked(int want, String change, String call) {
        x = new AccessLattice();
        x.senior(1, 0, 1);
        x.rule(0, 255, 100, 0, -1);
        x.assign(0, 1, 1);
        x.image();
        x.assign(2, 1, 1);
        x.lend(0, 3, 1, 5, 0);
        x.step(4);
        Calls.call(x, change);
        CHECKS.due(want, Calls.call(x, call), change + ", " + call);
    }

    private static void askedAtOnce() {
        CHECKS.sentence("A USER HOLDS: what it is ASSIGNED, and ROLES of LOANS to it that STAND: now.");
        String[] calls = {"may 0 0 0", "where 0 0", "until 0 0 0", "who 0 0 0", "could 0 0 0", "could 0 0 200", "lose 0 0 0 -1",
            "least 0 0 0 -1", "changes 3 0 0 -1", "ways 3 0", "idle 3", "unlike 0 2 -1", "decides 0 0", "decides 0 1", "since 3",
            "since 16", "count 2", "loan 0 6", "holds 0 0", "holds 0 2", "holds 3 0"};
        String[] changes = {"count 0", "assign 0 1 0", "senior 1 0 0", "step 1", "takeBack 0", "back", "off 0"};
        int[][] want = {
            {1, 1, NOT, 13, 13, 13, 1, 0, 1, 1, 2, 0, 24, 24, 8, 16, 1, 1, 3, 3, 3},
            {0, 0, NOT, 4, 4, 4, 0, 1, 0, 0, 0, 8, 8, 8, 0, 16, 0, 0, 0, 0, 0},
            {0, 0, NOT, 0, 0, 0, 0, 1, 0, 0, 2, 0, 0, 0, 0, 8, 1, 1, 2, 2, 2},
            {1, 1, NOT, 5, 5, 5, 1, 0, 0, 0, 0, 0, 16, 16, 0, 8, 0, 0, 3, 3, 0},
            {1, 1, NOT, 5, 5, 5, 1, 0, 0, 0, 0, 0, 16, 16, 0, 8, 0, 0, 3, 3, 0},
            {1, 1, NOT, 1, 1, 1, 1, 0, 0, 0, 0, 8, 8, 8, 0, 0, 0, BAD, 3, 3, 0},
            {0, 0, NOT, 0, 0, 0, 0, NOT, 0, 1, 3, 0, BAD, BAD, 0, 8, 1, 1, 3, 3, 3},
        };
        for (int i = 0; i < changes.length; i++) {
            for (int k = 0; k < calls.length; k++) {
                asked(want[i][k], changes[i], calls[k]);
            }
        }
    }

    private static void text(int answer, String text) {
        CHECKS.due(answer, Calls.pairs(x, text), text);
        due(0, x.count(5));
    }

    private static void seniorsTexts() {
        start("a number that is no ROLE: where it begins; otherwise the first byte with which no TEXT goes on, or the length.");
        text(-100, "");
        for (String wrong : new String[] {">", ",", "-", " ", "a", "(", "/", ":", ">1", ",1>2", "-1>2", " 1>2"}) {
            text(-100, wrong);
            text(-102, "1>" + wrong);
            text(-104, "1>2," + wrong);
        }
        text(-100, "20>1");
        text(-100, "99>1");
        text(-100, "20");
        text(-100, "29x");
        text(-102, "1>20");
        text(-102, "1>99,");
        text(-103, "19>20>");
        text(-103, "19>>");
        text(-101, "1,2>3");
        text(-101, "1<2");
        text(-101, "1 >2");
        text(-103, "1>2>3");
        text(-103, "1>2 ,3>4");
        text(-103, "1>2.");
        text(-102, "000>1");
        text(-102, "190>1");
        text(-104, "1>190");
        text(-104, "1>002");
        text(-102, "1>200");
        text(-101, "1");
        text(-102, "19");
        text(-102, "1>");
        text(-103, "19>");
        text(-104, "1>2,");
        text(-105, "1>2,3");
        text(-106, "1>2,3>");
        text(-106, "1>2,3>20,?");
        due(0, x.count(3));
        text(1, "00>01");
        text(1, "19>0");
        text(2, "1>09,2>9");
        due(4, x.count(3));
    }

    private static void seniorsLongest() {
        start("A TEXT of pairs, by THE TAPE: 80 bytes.");
        StringBuilder text = new StringBuilder();
        for (int i = 0; i < 19; i++) {
            text.append(9 - i / 5).append('>').append(i % 5).append(',');
        }
        text.append("6>1");
        due(79, text.length());
        Calls.feed(x, text.toString());
        due(80, x.feed(','));
        due(FULL, x.feed('1'));
        due(-180, x.seniors());
        due(0, x.count(3));
        Calls.feed(x, text.toString());
        due(80, x.feed('4'));
        due(20, x.seniors());
        due(0, x.count(5));
        due(20, x.count(3));
        due(1 << 14 | 15, x.roles(6, 0));
    }

    private static void seniorsRefused() {
        start("seniors(): as told; the pairs ahead of one that is refused came.");
        text(2, "0>1,1>2,0>1,5>6");
        due(2, x.count(3));
        text(1, "2>3,3>0,5>6");
        due(3, x.count(3));
        text(0, "7>7,5>6");
        x.exclude(8, 9, 1);
        x.assign(0, 8, 1);
        text(1, "8>10,10>9,5>6");
        due(4, x.count(3));
        due(0, x.roles(5, 0));
        for (int i = 0; i < 35; i++) {
            x.senior(11 + i / 9, i % 9, 1);
        }
        due(39, x.count(3));
        text(1, "5>6,6>7,7>8");
        text(0, "6>7");
        text(0, "5>6");
        due(40, x.count(3));
    }

    /** Changes all that an IMAGE keeps, but leaves the GROUNDS and THE TAPE like before. */
    private static void wreck(AccessLattice y) {
        y.may(3, 1, 8);
        for (int i = 0; i < 16; i++) {
            y.attribute(0, i, i % 4, 1);
            y.attribute(1, i, 3 - i % 4, 2);
            y.within(i, -1);
            y.assign(i, 7, 0);
            y.assign(i, 2, 1);
        }
        y.within(8, 3);
        y.senior(7, 6, 0);
        y.senior(6, 7, 1);
        y.senior(18, 1, 1);
        y.exclude(3, 4, 0);
        y.exclude(3, 9, 1);
        y.uses(0, 3);
        y.uses(2, -1);
        y.off(1);
        y.lend(1, 5, 0, 900, 4);
        y.takeBack(2);
        y.step(90);
    }

    private static void imageKeepsAll() {
        start("AN IMAGE keeps all but THE TAPE, and GROUNDS.");
        AccessLattice untouched = Scene.make();
        due(5, untouched.image());
        x = Scene.make();
        due(5, x.image());
        wreck(x);
        due(5, x.back());
        CHECKS.fine(Scene.look(x).equals(Scene.look(untouched)), "something is not laid back");
        String[] calls = {"chain 7 6 1", "level 7", "ways 3 18", "join 7 6 0", "join 7 6 1", "may 4 0 8", "why 1 1", "why 2 1",
            "until 1 0 8", "clash 1 -1", "shadowed 2", "may 2 0 5", "why 0 1", "may 3 1 5", "idle 3", "who 0 5 0", "since 16"};
        AccessLattice other = Scene.make();
        other.image();
        x = Scene.make();
        x.image();
        wreck(x);
        x.seniors();
        other.seniors();
        for (int i = 0; i < 40; i++) {
            x.lend(1, 9, 0, 900 + i, 1);
            x.rule(2, 128, 100 + i % 16, i, i + 1);
        }
        x.back();
        for (String call : calls) {
            CHECKS.due(Calls.call(other, call), Calls.call(x, call), call);
        }
        due(3, x.lend(1, 9, 0, 30, 0));
        due(3, x.rule(1, 1, 0, 0, -1));
        due(0, x.of(3, 7));
    }

    private static void imageKeepsUses() {
        start("It is laid back: USES, THE BOOK, what may() answered so far, LOANS that lapsed or were TAKEN BACK.");
        x.assign(0, 0, 1);
        x.lend(0, 1, 0, 5, 0);
        x.lend(0, 2, 0, 50, 0);
        x.rule(0, 1, 0, 0, -1);
        x.uses(0, 2);
        due(1, x.may(1, 0, 0));
        due(0, x.image());
        due(1, x.may(2, 0, 0));
        due(0, x.may(2, 0, 0));
        due(1, x.takeBack(1));
        due(5, x.step(5));
        due(0, x.count(2));
        due(0, x.back());
        due(2, x.count(2));
        due(1, x.left(0));
        due(1, x.count(6));
        due(0, x.count(8));
        due(1, x.book(0, 1));
        due(NOT, x.book(1, 0));
        due(1, x.may(2, 0, 0));
        due(0, x.back());
        due(1, x.left(0));
        due(2, x.lend(0, 1, 0, 1, 0));
        due(4, x.step(4));
        due(1, x.loan(0, 6));
        due(0, x.loan(2, 6));
    }

    private static void imageKeepsTheBook() {
        start("It is laid back: THE BOOK, though its oldest went since.");
        for (int i = 0; i < 33; i++) {
            x.may(i % 16, 0, 0);
        }
        x.image();
        due(3, x.book(0, 1));
        due(0, x.book(29, 1));
        for (int i = 0; i < 5; i++) {
            x.may(9, 0, 0);
        }
        due(8, x.book(0, 1));
        due(9, x.book(29, 1));
        x.back();
        for (int i = 0; i < 30; i++) {
            due((i + 3) % 16, x.book(i, 1));
        }
        due(NOT, x.book(30, 1));
        due(33, x.count(8));
    }

    private static void imageLeavesTapeAndGrounds() {
        start("THE TAPE and GROUNDS are not laid back.");
        x.assign(0, 0, 1);
        x.rule(0, 1, 0, 0, -1);
        Calls.feed(x, "1=1");
        x.may(0, 0, 0);
        x.image();
        due(3, x.count(5));
        Calls.feed(x, "&2");
        due(0, x.may(1, 0, 0));
        x.back();
        due(5, x.count(5));
        due(NOT, x.why(0, 0));
        due(-105, Calls.condition(x, ")"));
        x.back();
        due(0, x.count(5));
        due(1, x.rule(0, 1, 0, 0, -1));
        due(0, x.of(1, 7));
    }

    private static void imageTwice() {
        start("AN IMAGE is kept: the latest one, however often it is laid back.");
        due(STATE, x.back());
        due(0, x.image());
        x.assign(0, 1, 1);
        x.step(3);
        due(3, x.image());
        x.assign(0, 2, 1);
        x.step(3);
        due(3, x.back());
        due(2, x.holds(0, 1));
        due(3, x.back());
        x.assign(0, 3, 1);
        due(10, x.holds(0, 1));
        due(3, x.back());
        due(2, x.holds(0, 1));
        due(3, x.image());
    }

    private static void counts() {
        start("How many: 0 RULES that are there, 1 LOANS, 2 that STAND, 3 SENIOR pairs, 4 EXCLUDED ones, 5 bytes, 6 may() "
                + "ALLOWED, 7 DENIED, 8 NOTHING.");
        x.assign(0, 0, 1);
        for (int i = 0; i < 30; i++) {
            x.rule(i % 2 * 100, 1 << i % 2, 0, 0, -1);
        }
        for (int i = 0; i < 40; i++) {
            x.lend(0, 1, 0, 5 + i, 0);
        }
        for (int i = 0; i < 10; i++) {
            x.exclude(i, 19 - i, 1);
        }
        for (int i = 0; i < 40; i++) {
            x.senior(3 + i / 6, 10 + i % 6, 1);
        }
        for (int i = 0; i < 80; i++) {
            x.feed('1');
        }
        for (int i = 0; i < 66; i++) {
            x.may(0, i % 3, i % 11 == 10 ? 16 : 0);
        }
        int[] want = {30, 40, 40, 40, 10, 80, 20, 20, 20};
        for (int what = 0; what < 9; what++) {
            CHECKS.due(want[what], x.count(what), "count " + what);
        }
        x.step(44);
        due(0, x.count(2));
        due(40, x.count(1));
        due(29, x.off(7));
        due(29, x.count(0));
        due(BAD, x.count(9));
        due(BAD, x.count(-1));
        due(-102, x.seniors());
        due(0, x.count(5));
    }
}
