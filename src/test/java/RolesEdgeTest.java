/** The edges that the first part of the Terms names: THINGS, ROLES, TICKS, EXCLUDED pairs, LOANS. */
public final class RolesEdgeTest {
    private static final int BAD = -1, NOT = -2, FULL = -3, RING = -4, STATE = -5, EXCLUDED = -6;
    private static final int ALL_ROLES = (1 << 20) - 1;
    private static final Checks CHECKS = new Checks();

    private static AccessLattice x = new AccessLattice();

    private static void start(String sentence) {
        CHECKS.sentence(sentence);
        x = new AccessLattice();
    }

    private static void due(int want, int got) {
        CHECKS.due(want, got);
    }

    public static void main(String[] args) {
        lastCall();
        ownMemory();
        attributesAtFirst();
        attributesApart();
        attributesInConditions();
        thingsAtFirst();
        thingRings();
        thingRingsUndone();
        below();
        seniorMost();
        seniorRings();
        seniorAndSoOn();
        now();
        assignedAtFirst();
        assignedMost();
        excludedMost();
        excludedTold();
        excludedByAnyUser();
        excludedLapses();
        excludedTakenAway();
        loansMost();
        loanUntil();
        loanFurther();
        loanSource();
        loanSourceLeast();
        loanStands();
        loanStandsAgain();
        loanStandsByAssignedAlone();
        loanSourceStands();
        loanEnds();
        takenBackMany();
        CHECKS.close();
    }

    private static void lastCall() {
        start("An object is used for at most 512 calls after it has been made.");
        for (int i = 0; i < 255; i++) {
            due(0, x.may(i % 16, i % 8, i % 16));
            due(i % 16, x.book(Math.min(i, 29), 1));
        }
        due(255, x.count(8));
        due(0, x.image());
    }

    private static void ownMemory() {
        start("All memory is the class's own.");
        AccessLattice other = Scene.make();
        due(0, x.count(0) + x.count(1) + x.count(3) + x.count(4) + x.count(5));
        due(STATE, x.back());
        due(NOT, x.why(0, 0));
        x.assign(0, 5, 1);
        x.image();
        x.feed('1');
        due(128, other.holds(0, 1));
        due(5, other.count(5));
        due(3, other.back());
        due(32, x.holds(0, 1));
    }

    private static void attributesAtFirst() {
        start("Each USER and THING has ATTRIBUTES 0 .. 3 (0 .. 99; 0 at first).");
        for (int of = 0; of < 16; of++) {
            for (int k = 0; k < 4; k++) {
                due(0, x.attribute(0, of, k, 99));
                due(0, x.attribute(1, of, k, 98));
                due(99, x.attribute(0, of, k, 0));
                due(98, x.attribute(1, of, k, 0));
            }
        }
    }

    private static void attributesApart() {
        start("ATTRIBUTE k of a USER (side 0), a THING (1) becomes v: what it was.");
        for (int i = 0; i < 128; i++) {
            x.attribute(i / 64, i / 4 % 16, i % 4, i * 7 % 100);
        }
        for (int i = 0; i < 128; i++) {
            due(i * 7 % 100, x.attribute(i / 64, i / 4 % 16, i % 4, 3));
        }
    }

    private static void attributesInConditions() {
        start("u or t and a figure 0 .. 3 (ATTRIBUTE of the USER, of the THING that is asked for).");
        x.assign(15, 0, 1);
        for (int k = 0; k < 4; k++) {
            x.attribute(0, 15, k, 90 + k);
            x.attribute(1, 15, k, 96 + k);
        }
        x.attribute(1, 0, 3, 5);
        x.within(15, 0);
        for (int k = 0; k < 4; k++) {
            Calls.feed(x, "u" + k + "=" + (90 + k) + "&t" + k + "=" + (96 + k));
            due(k, x.rule(0, 1 << k, 100, 0, -1));
            due(1, x.may(15, k, 15));
            due(0, x.may(15, k, 0));
        }
    }

    private static void thingsAtFirst() {
        start("A THING may lie in another one (none at first).");
        for (int i = 0; i < 16; i++) {
            due(0, x.under(i));
            due(-1, x.within(i, -1));
        }
        due(-1, x.within(0, 15));
        due(15, x.within(0, 14));
        due(14, x.within(0, 14));
        due(14, x.within(0, -1));
        due(-1, x.within(0, -1));
    }

    private static void thingRings() {
        for (int many = 1; many <= 16; many++) {
            start("no ring: of " + many + " THINGS");
            for (int i = 1; i < many; i++) {
                due(-1, x.within(i, i - 1));
            }
            due(RING, x.within(0, many - 1));
            due((1 << many) - 2, x.under(0));
            due(0, x.under(many - 1));
            due(-1, x.within(0, many == 16 ? -1 : many));
        }
    }

    private static void thingRingsUndone() {
        start("no ring: what would have been one is none, once a THING of it lies elsewhere.");
        x.within(1, 0);
        x.within(2, 1);
        due(RING, x.within(0, 2));
        due(0, x.within(1, -1));
        due(-1, x.within(0, 2));
        due(RING, x.within(1, 0));
        due(1, x.within(2, -1));
        due(-1, x.within(1, 0));
        due(2, x.within(0, 2));
        due(RING, x.within(2, 1));
        due(3, x.under(2));
    }

    private static void below() {
        start("it is BELOW that, and below what that is BELOW.");
        for (int i = 0; i < 15; i++) {
            x.within(i, i + 1);
        }
        x.assign(0, 0, 1);
        x.assign(1, 1, 1);
        Calls.feed(x, "d=15");
        x.rule(0, 1, 115, 0, -1);
        x.rule(1, 1, 15, 0, -1);
        for (int i = 0; i < 16; i++) {
            due((1 << i) - 1, x.under(i));
            due(i == 0 ? 1 : 0, x.may(0, 0, i));
            due(i == 15 ? 1 : 0, x.may(1, 0, i));
        }
    }

    private static void seniorMost() {
        start("A ROLE may be SENIOR to others (40 such pairs at most).");
        for (int i = 0; i < 40; i++) {
            due(i + 1, x.senior(19 - i / 10, i % 10, 1));
        }
        due(FULL, x.senior(15, 0, 1));
        due(0, Calls.pairs(x, "15>0"));
        due(40, x.count(3));
        due(0, x.roles(15, 0));
        due(39, x.senior(19, 0, 0));
        due(1, Calls.pairs(x, "15>1,15>0,15>2"));
        due(39, x.senior(15, 1, 0));
        due(40, x.senior(15, 0, 1));
        due(FULL, x.senior(15, 2, 1));
    }

    private static void seniorRings() {
        for (int many = 1; many <= 20; many++) {
            start("no ring: of " + many + " ROLES");
            for (int i = 1; i < many; i++) {
                due(i, x.senior(i - 1, i, 1));
            }
            due(RING, x.senior(many - 1, 0, 1));
            due(0, Calls.pairs(x, (many - 1) + ">0"));
            due(many - 1, x.count(3));
            due(many - 1, x.level(0));
            due(0, x.level(many - 1));
            due((1 << many) - 2, x.roles(0, 0));
            due((1 << many - 1) - 1, x.roles(many - 1, 1));
        }
    }

    private static void seniorAndSoOn() {
        start("who HOLDS it HOLDS these, too, and those that they are SENIOR to, and so on.");
        for (int i = 19; i > 0; i--) {
            x.senior(i, i - 1, 1);
        }
        x.assign(0, 19, 1);
        x.assign(15, 0, 1);
        due(ALL_ROLES, x.holds(0, 0));
        due(ALL_ROLES, x.holds(0, 2));
        due(1 << 19, x.holds(0, 1));
        due(1, x.holds(15, 0));
        due(18, x.senior(10, 9, 0));
        due(ALL_ROLES - 1023, x.holds(0, 0));
        due(1023, x.roles(9, 0) | 1 << 9);
        due(ALL_ROLES - 2047, x.roles(10, 1));
    }

    private static void now() {
        start("NOW: a TICK (0 at first; 9999 at most).");
        due(0, x.image());
        due(BAD, x.step(0));
        due(BAD, x.step(501));
        due(1, x.step(1));
        for (int i = 1; i < 20; i++) {
            due(1 + 500 * i, x.step(500));
        }
        due(FULL, x.step(499));
        due(9501, x.image());
        due(9998, x.step(497));
        due(FULL, x.step(2));
        due(9999, x.step(1));
        due(FULL, x.step(1));
        due(FULL, x.step(500));
        due(BAD, x.step(Integer.MAX_VALUE));
        due(9999, x.image());
    }

    private static void assignedAtFirst() {
        start("A USER is ASSIGNED ROLES (none at first).");
        for (int user = 0; user < 16; user++) {
            due(0, x.holds(user, 0));
            due(0, x.holds(user, 1));
            due(0, x.holds(user, 2));
            due(NOT, x.assign(user, 19 - user, 0));
            due(1, x.assign(user, 19 - user, 1));
            due(0, x.assign(user, 19 - user, 0));
        }
    }

    private static void assignedMost() {
        start("how many ROLES it is ASSIGNED.");
        for (int i = 0; i < 20; i++) {
            due(i + 1, x.assign(15, i, 1));
            due(i + 1, x.assign(0, 19 - i, 1));
        }
        due(ALL_ROLES, x.holds(15, 1));
        due(NOT, x.assign(15, 0, 1));
        due(19, x.assign(15, 19, 0));
        due(ALL_ROLES >> 1, x.holds(15, 1));
        due(ALL_ROLES, x.holds(0, 1));
    }

    private static void excludedMost() {
        start("EXCLUDED: pairs of unlike ROLES (10 at most).");
        for (int i = 0; i < 10; i++) {
            due(BAD, x.exclude(i, i, 1));
            due(i + 1, x.exclude(19 - i, i, 1));
        }
        due(FULL, x.exclude(0, 1, 1));
        due(NOT, x.exclude(0, 1, 0));
        due(NOT, x.exclude(0, 19, 1));
        due(9, x.exclude(0, 19, 0));
        x.assign(0, 0, 1);
        due(2, x.assign(0, 19, 1));
        due(10, x.exclude(1, 0, 1));
        due(EXCLUDED, x.assign(0, 1, 1));
        due(FULL, x.exclude(0, 19, 1));
    }

    private static void excludedTold() {
        start("told of ROLES that some USER HOLDS both now, the pair is refused.");
        x.senior(0, 1, 1);
        x.senior(0, 2, 1);
        due(1, x.exclude(1, 2, 1));
        due(0, x.exclude(1, 2, 0));
        due(1, x.assign(15, 0, 1));
        due(EXCLUDED, x.exclude(1, 2, 1));
        due(EXCLUDED, x.exclude(0, 2, 1));
        due(0, x.count(4));
        due(1, x.exclude(3, 2, 1));
        due(0, x.assign(15, 0, 0));
        due(2, x.exclude(1, 2, 1));
        due(EXCLUDED, x.assign(15, 0, 1));
    }

    private static void excludedByAnyUser() {
        start("what would make a USER HOLD both is refused.");
        x.exclude(1, 2, 1);
        x.assign(0, 1, 1);
        x.lend(0, 15, 1, 90, 3);
        due(EXCLUDED, x.assign(15, 2, 1));
        x.senior(4, 2, 1);
        due(EXCLUDED, x.assign(15, 4, 1));
        due(EXCLUDED, x.senior(1, 4, 1));
        due(0, Calls.pairs(x, "1>4,5>6"));
        x.assign(3, 4, 1);
        due(EXCLUDED, x.lend(15, 3, 1, 90, 0));
        due(EXCLUDED, x.lend(3, 15, 4, 90, 0));
        due(EXCLUDED, x.lend(3, 0, 2, 90, 0));
        due(1, x.lend(3, 5, 2, 90, 0));
        due(2, x.holds(15, 0));
        due(1, x.count(3));
    }

    private static void excludedLapses() {
        start("at the TICK at which it is told; what becomes so by what lapses, never is.");
        x.assign(0, 1, 1);
        x.lend(0, 1, 1, 10, 0);
        x.assign(1, 2, 1);
        due(EXCLUDED, x.exclude(1, 2, 1));
        due(9, x.step(9));
        due(EXCLUDED, x.exclude(1, 2, 1));
        due(10, x.step(1));
        due(1, x.exclude(1, 2, 1));
        due(EXCLUDED, x.lend(0, 1, 1, 11, 0));
        due(0, x.assign(1, 2, 0));
        due(1, x.lend(0, 1, 1, 11, 0));
        due(EXCLUDED, x.assign(1, 2, 1));
        due(11, x.step(1));
        due(1, x.assign(1, 2, 1));
    }

    private static void excludedTakenAway() {
        start("what becomes so by what is taken away never is refused.");
        x.exclude(1, 2, 1);
        x.assign(0, 1, 1);
        x.assign(1, 2, 1);
        x.senior(1, 3, 1);
        x.lend(0, 2, 1, 50, 0);
        due(0, x.senior(1, 3, 0));
        due(1, x.takeBack(0));
        due(0, x.assign(0, 1, 0));
        due(0, x.exclude(2, 1, 0));
        due(2, x.assign(1, 1, 1));
        due(EXCLUDED, x.exclude(2, 1, 1));
        due(1, x.assign(1, 1, 0));
        due(1, x.exclude(2, 1, 1));
    }

    private static void loansMost() {
        start("LOANS (40 at most, numbered as they come).");
        x.assign(0, 0, 1);
        for (int i = 0; i < 40; i++) {
            due(i, x.lend(0, 1 + i % 15, 0, 1 + i, i % 6));
        }
        due(FULL, x.lend(0, 1, 0, 50, 0));
        due(40, x.count(1));
        due(40, x.count(2));
        due(1, x.takeBack(39));
        due(39, x.step(39));
        due(0, x.count(2));
        due(40, x.count(1));
        due(FULL, x.lend(0, 1, 0, 50, 0));
        due(BAD, x.loan(40, 0));
        due(10, x.loan(39, 1));
        due(3, x.loan(39, 4));
        due(0, x.loan(38, 6));
    }

    private static void loanUntil() {
        start("UNTIL a TICK (above NOW).");
        x.assign(0, 0, 1);
        due(BAD, x.lend(0, 1, 0, 0, 0));
        due(0, x.lend(0, 1, 0, 1, 0));
        x.step(7);
        due(BAD, x.lend(0, 1, 0, 7, 0));
        due(BAD, x.lend(0, 1, 0, 6, 0));
        due(BAD, x.lend(0, 1, 0, -1, 0));
        due(1, x.lend(0, 2, 0, 8, 0));
        due(2, x.lend(0, 3, 0, 9999, 0));
        due(3, x.lend(0, 4, 0, Integer.MAX_VALUE, 0));
        due(8, x.step(1));
        due(0, x.loan(1, 6));
        due(9999, x.loan(2, 3));
        due(Integer.MAX_VALUE, x.loan(3, 3));
        for (int i = 0; i < 19; i++) {
            x.step(500);
        }
        due(9998, x.step(490));
        due(2, x.count(2));
        due(9999, x.step(1));
        due(1, x.count(2));
        due(BAD, x.lend(0, 1, 0, 9999, 0));
        due(4, x.lend(0, 1, 0, 10000, 0));
        due(1, x.loan(4, 6));
    }

    private static void loanFurther() {
        start("FURTHER (0 .. 5): how often it may be lent on.");
        x.assign(0, 0, 1);
        due(BAD, x.lend(0, 1, 0, 50, 6));
        due(BAD, x.lend(0, 1, 0, 50, -1));
        for (int i = 0; i < 6; i++) {
            due(i == 0 ? 0 : STATE, x.lend(i, i + 1, 0, 50, i == 0 ? 5 : 6 - i));
            due(i == 0 ? STATE : i, x.lend(i == 0 ? 7 : i, i + 1, 0, 50, 5 - i));
        }
        due(STATE, x.lend(6, 7, 0, 50, 0));
        due(1, x.holds(6, 0));
        due(6, x.count(2));
        due(6, x.takeBack(0));
    }

    private static void loanSource() {
        start("Its SOURCE: -1, if the lender HOLDS the ROLE by what it is ASSIGNED.");
        x.senior(1, 0, 1);
        x.assign(0, 1, 1);
        x.assign(1, 0, 1);
        due(0, x.lend(0, 1, 0, 50, 5));
        due(1, x.lend(1, 2, 0, 50, 5));
        due(-1, x.loan(0, 5));
        due(-1, x.loan(1, 5));
        due(1, x.takeBack(0));
        due(1, x.loan(1, 6));
        due(2, x.lend(0, 3, 1, 50, 5));
        due(3, x.lend(3, 4, 0, 50, 4));
        due(2, x.loan(3, 5));
        x.assign(3, 0, 1);
        due(4, x.lend(3, 5, 0, 50, 5));
        due(-1, x.loan(4, 5));
        due(2, x.takeBack(2));
        due(0, x.loan(3, 6));
        due(1, x.loan(4, 6));
    }

    private static void loanSourceLeast() {
        start("else the least LOAN to the lender that STANDS, whose FURTHER is more than that of the new one, and by which "
                + "it HOLDS the ROLE.");
        x.senior(1, 0, 1);
        x.assign(0, 1, 1);
        x.assign(0, 2, 1);
        x.lend(0, 5, 2, 50, 5);
        x.lend(0, 6, 0, 50, 5);
        x.lend(0, 5, 0, 3, 5);
        x.lend(0, 5, 0, 50, 5);
        x.lend(0, 5, 0, 50, 1);
        x.lend(0, 5, 1, 50, 2);
        x.lend(0, 5, 0, 50, 3);
        x.step(3);
        x.takeBack(3);
        due(7, x.lend(5, 7, 0, 40, 0));
        due(4, x.loan(7, 5));
        due(8, x.lend(5, 7, 0, 40, 1));
        due(5, x.loan(8, 5));
        due(9, x.lend(5, 7, 0, 40, 2));
        due(6, x.loan(9, 5));
        due(STATE, x.lend(5, 7, 0, 40, 3));
        due(10, x.lend(5, 7, 1, 40, 0));
        due(5, x.loan(10, 5));
        due(STATE, x.lend(5, 7, 1, 40, 2));
        due(11, x.lend(5, 7, 2, 40, 4));
        due(0, x.loan(11, 5));
    }

    private static void loanStands() {
        start("A LOAN STANDS, if NOW is below UNTIL.");
        x.assign(0, 19, 1);
        x.step(4);
        x.lend(0, 15, 19, 10, 1);
        x.lend(15, 14, 19, 20, 0);
        due(1, x.loan(0, 6));
        due(9, x.step(5));
        due(1, x.loan(0, 6));
        due(1 << 19, x.holds(15, 0));
        due(0, x.holds(15, 2));
        due(1 << 19, x.holds(14, 0));
        due(10, x.step(1));
        due(0, x.loan(0, 6));
        due(0, x.loan(1, 6));
        due(0, x.holds(15, 0));
        due(0, x.holds(14, 0));
        due(STATE, x.takeBack(0));
        due(2, x.count(1));
        due(0, x.count(2));
    }

    private static void loanStandsAgain() {
        start("SOURCE -1: the lender HOLDS the ROLE by what it is ASSIGNED now.");
        x.senior(1, 0, 1);
        x.assign(0, 1, 1);
        x.lend(0, 1, 0, 50, 1);
        x.lend(1, 2, 0, 50, 0);
        due(0, x.assign(0, 1, 0));
        due(0, x.count(2));
        due(1, x.assign(0, 0, 1));
        due(2, x.count(2));
        due(2, x.assign(0, 1, 1));
        due(1, x.assign(0, 0, 0));
        due(1, x.holds(2, 0));
        due(0, x.senior(1, 0, 0));
        due(0, x.holds(2, 0));
        due(1, Calls.pairs(x, "1>0"));
        due(1, x.holds(2, 0));
        x.assign(3, 0, 1);
        x.lend(3, 0, 0, 60, 5);
        due(0, x.assign(0, 1, 0));
        due(1, x.holds(0, 0));
        due(0, x.loan(0, 6));
        due(1, x.count(2));
    }

    /** The LOAN by which the lender HOLDS the ROLE, too, has the lesser number, the greater one. */
    private static void loanStandsByAssignedAlone() {
        for (int first = 0; first < 2; first++) {
            start("SOURCE -1: by what it is ASSIGNED, though a LOAN to the lender STANDS.");
            x.assign(0, 0, 1);
            x.assign(1, 0, 1);
            int onward = 1 - first;
            if (first == 0) {
                due(0, x.lend(0, 1, 0, 50, 5));
                due(1, x.lend(1, 2, 0, 50, 4));
            } else {
                due(0, x.lend(1, 2, 0, 50, 4));
                due(1, x.lend(0, 1, 0, 50, 5));
            }
            due(-1, x.loan(onward, 5));
            due(2, x.count(2));
            due(0, x.assign(1, 0, 0));
            due(1, x.holds(1, 0));
            due(0, x.holds(1, 2));
            due(0, x.loan(onward, 6));
            due(0, x.holds(2, 0));
            due(STATE, x.takeBack(onward));
            due(2, x.lend(1, 2, 0, 50, 4));
            due(first, x.loan(2, 5));
            due(1, x.holds(2, 0));
        }
    }

    private static void loanSourceStands() {
        start("otherwise: SOURCE STANDS.");
        x.assign(0, 0, 1);
        x.lend(0, 1, 0, 20, 5);
        x.lend(0, 1, 0, 90, 5);
        x.lend(1, 2, 0, 50, 4);
        x.assign(1, 0, 1);
        due(0, x.loan(2, 5));
        due(19, x.step(19));
        due(1, x.loan(2, 6));
        due(20, x.step(1));
        due(0, x.loan(2, 6));
        due(1, x.loan(1, 6));
        due(0, x.holds(2, 0));
        due(3, x.lend(1, 2, 0, 50, 4));
        due(-1, x.loan(3, 5));
        due(1, x.holds(2, 0));
    }

    private static void loanEnds() {
        start("A LOAN is TAKEN BACK.");
        x.assign(0, 0, 1);
        x.lend(0, 1, 0, 50, 5);
        due(1, x.takeBack(0));
        due(0, x.holds(1, 0));
        x.assign(0, 0, 0);
        x.assign(0, 0, 1);
        due(0, x.loan(0, 6));
        due(STATE, x.takeBack(0));
        due(0, x.loan(0, 0));
        due(1, x.loan(0, 1));
        due(50, x.loan(0, 3));
        due(1, x.lend(0, 1, 0, 50, 5));
    }

    private static void takenBackMany() {
        start("how many LOANS stand no more by it (itself, too).");
        x.assign(0, 0, 1);
        x.lend(0, 1, 0, 50, 5);
        for (int i = 1; i < 40; i++) {
            due(i, x.lend(1, 2 + i % 14, 0, i == 1 ? 9 : 50, i % 5));
        }
        x.step(9);
        due(39, x.count(2));
        due(1, x.takeBack(39));
        due(STATE, x.takeBack(1));
        due(38, x.takeBack(0));
        due(0, x.count(2));
        due(40, x.count(1));
        due(STATE, x.takeBack(0));
    }
}
