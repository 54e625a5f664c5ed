import java.util.List;
import java.util.function.Consumer;

/**
 * Each way of being refused that the document tells of a call: which answer is due, of several the
 * one named first; and what the call leaves behind. Looking changes nothing, either.
 */
public final class RefusalTest {
    private static final int BAD = -1, NOT = -2, FULL = -3, RING = -4, STATE = -5, EXCLUDED = -6;
    private static final Checks CHECKS = new Checks();

    public static void main(String[] args) {
        within();
        senior();
        seniorOrder();
        assign();
        exclude();
        step();
        lend();
        lendOrder();
        takeBack();
        feed();
        rule();
        ruleFaults();
        goneRules();
        noneYet();
        tooFew();
        imageOfNone();
        seniors();
        looking();
        CHECKS.close();
    }

    /** On an object made richer by that, the call is refused so, and leaves all as it was. */
    private static void refused(Consumer<AccessLattice> ahead, int answer, String call) {
        AccessLattice x = Scene.make();
        AccessLattice untouched = Scene.make();
        ahead.accept(x);
        ahead.accept(untouched);
        CHECKS.due(answer, Calls.call(x, call), call);
        CHECKS.fine(Scene.look(x).equals(Scene.look(untouched)), call + " has changed something");
    }

    private static void refused(int answer, String call) {
        refused(x -> { }, answer, call);
    }

    private static void within() {
        CHECKS.sentence("A THING lies in another one (-1: in none): in which it lay (-1: none). BAD; RING.");
        refused(RING, "within 8 8");
        refused(RING, "within 8 5");
        refused(x -> x.within(4, 3), RING, "within 8 4");
        refused(x -> x.within(8, -1), RING, "within 8 15");
        refused(BAD, "within 16 16");
        refused(BAD, "within -1 -1");
    }

    private static void pairs40(AccessLattice x) {
        for (int i = 0; i < 38; i++) {
            x.senior(8 + i / 5, i % 5, 1);
        }
    }

    private static void senior() {
        CHECKS.sentence("BAD; NOT: on 1: it is already, on 0: it is not; FULL; RING; EXCLUDED (on 1: some USER would HOLD "
                + "such a pair).");
        refused(NOT, "senior 7 6 1");
        refused(NOT, "senior 6 7 0");
        refused(NOT, "senior 5 5 0");
        refused(NOT, "senior 19 17 0");
        refused(RING, "senior 6 7 1");
        refused(RING, "senior 5 5 1");
        refused(x -> x.senior(6, 5, 1), RING, "senior 5 7 1");
        refused(RefusalTest::pairs40, FULL, "senior 1 2 1");
        refused(x -> x.exclude(7, 5, 1), EXCLUDED, "senior 6 5 1");
        refused(x -> {
            x.assign(15, 3, 1);
            x.senior(5, 4, 1);
        }, EXCLUDED, "senior 3 5 1");
        // By that, LOAN 0 would STAND again.
        refused(x -> {
            x.assign(1, 19, 0);
            x.assign(2, 2, 1);
            x.exclude(18, 2, 1);
        }, EXCLUDED, "senior 0 19 1");
    }

    private static void seniorOrder() {
        CHECKS.sentence("Answers, of several the one named first: BAD; NOT; FULL; RING; STATE; EXCLUDED.");
        refused(RefusalTest::pairs40, BAD, "senior 20 20 1");
        refused(RefusalTest::pairs40, BAD, "senior 7 6 2");
        refused(RefusalTest::pairs40, NOT, "senior 7 6 1");
        refused(RefusalTest::pairs40, NOT, "senior 6 7 0");
        refused(RefusalTest::pairs40, FULL, "senior 6 7 1");
        refused(RefusalTest::pairs40, FULL, "senior 1 1 1");
        refused(x -> {
            pairs40(x);
            x.exclude(7, 5, 1);
        }, FULL, "senior 6 5 1");
        // USER 9 HOLDS ROLE 1, and would HOLD ROLE 6 and what that is SENIOR to, ROLE 2, too.
        refused(x -> {
            x.senior(5, 1, 1);
            x.exclude(1, 2, 1);
            x.senior(5, 2, 1);
        }, RING, "senior 1 5 1");
        refused(x -> x.exclude(6, 5, 1), BAD, "senior 7 5 -1");
    }

    private static void assign() {
        CHECKS.sentence("BAD; NOT: it is so already; EXCLUDED (any USER would HOLD such a pair, LOANS that would STAND "
                + "again, too).");
        refused(NOT, "assign 1 7 1");
        refused(NOT, "assign 0 0 0");
        refused(NOT, "assign 2 19 0");
        refused(NOT, "assign 2 6 0");
        refused(x -> x.assign(5, 3, 1), EXCLUDED, "assign 5 4 1");
        refused(x -> {
            x.assign(5, 3, 1);
            x.senior(11, 12, 1);
            x.senior(12, 4, 1);
        }, EXCLUDED, "assign 5 11 1");
        refused(x -> {
            x.senior(11, 3, 1);
            x.senior(11, 4, 1);
        }, EXCLUDED, "assign 15 11 1");
        refused(x -> {
            x.exclude(18, 2, 1);
            x.assign(1, 19, 0);
            x.assign(3, 2, 1);
        }, EXCLUDED, "assign 1 19 1");
        refused(x -> {
            x.exclude(18, 2, 1);
            x.assign(5, 2, 1);
        }, BAD, "assign 5 18 2");
    }

    private static void exclude() {
        CHECKS.sentence("BAD (also one and the same); NOT: it is so already; FULL; EXCLUDED: some USER HOLDS both.");
        Consumer<AccessLattice> full = x -> {
            for (int i = 8; i < 17; i++) {
                x.exclude(i, i + 1, 1);
            }
        };
        refused(BAD, "exclude 5 5 1");
        refused(BAD, "exclude 5 5 0");
        refused(BAD, "exclude 20 20 1");
        refused(NOT, "exclude 3 4 1");
        refused(NOT, "exclude 4 3 1");
        refused(NOT, "exclude 3 5 0");
        refused(EXCLUDED, "exclude 7 6 1");
        refused(EXCLUDED, "exclude 0 7 1");
        refused(EXCLUDED, "exclude 6 18 1");
        refused(full, BAD, "exclude 5 5 1");
        refused(full, NOT, "exclude 17 16 1");
        refused(full, NOT, "exclude 5 4 0");
        refused(full, FULL, "exclude 1 2 1");
        refused(full, FULL, "exclude 6 7 1");
    }

    private static void step() {
        CHECKS.sentence("n TICKS (1 .. 500) go by: NOW. BAD; FULL: it would be above 9999.");
        Consumer<AccessLattice> late = x -> {
            for (int i = 0; i < 19; i++) {
                x.step(500);
            }
        };
        refused(late, FULL, "step 500");
        refused(late, FULL, "step 495");
        refused(late, BAD, "step 501");
        refused(late, BAD, "step 0");
        refused(x -> {
            late.accept(x);
            x.step(494);
        }, FULL, "step 1");
    }

    private static void loans40(AccessLattice x) {
        for (int i = 3; i < 40; i++) {
            x.lend(5, 6, 7, 100, 3);
        }
    }

    private static void lend() {
        CHECKS.sentence("BAD: no such USERS (one and the same, too), ROLE, FURTHER, UNTIL not above NOW; FULL: 40; STATE: "
                + "the lender does not HOLD it, or has no SOURCE for it; EXCLUDED: the other one would HOLD such a pair.");
        refused(BAD, "lend 1 1 7 30 0");
        refused(BAD, "lend 1 9 7 5 0");
        refused(BAD, "lend 1 9 7 4 0");
        refused(BAD, "lend 1 9 7 0 0");
        refused(RefusalTest::loans40, FULL, "lend 1 9 7 30 0");
        refused(x -> {
            loans40(x);
            x.takeBack(39);
            x.step(200);
        }, FULL, "lend 1 9 7 300 0");
        refused(STATE, "lend 9 1 0 30 0");
        refused(STATE, "lend 9 1 2 30 0");
        refused(STATE, "lend 2 9 19 30 5");
        refused(STATE, "lend 3 9 19 30 4");
        refused(STATE, "lend 3 9 18 30 4");
        refused(STATE, "lend 4 9 0 30 0");
        refused(x -> x.takeBack(0), STATE, "lend 2 9 19 30 0");
        refused(x -> x.step(45), STATE, "lend 3 9 19 99 0");
        refused(x -> {
            x.assign(1, 3, 1);
            x.assign(9, 4, 1);
        }, EXCLUDED, "lend 1 9 3 30 0");
        refused(x -> {
            x.exclude(18, 8, 1);
            x.assign(9, 8, 1);
        }, EXCLUDED, "lend 2 9 19 30 0");
    }

    private static void lendOrder() {
        CHECKS.sentence("lend: BAD, FULL, STATE, EXCLUDED, of several the one named first.");
        refused(RefusalTest::loans40, BAD, "lend 1 1 7 30 0");
        refused(RefusalTest::loans40, BAD, "lend 1 9 7 5 0");
        refused(RefusalTest::loans40, BAD, "lend 9 1 0 30 6");
        refused(RefusalTest::loans40, FULL, "lend 9 1 0 30 0");
        refused(x -> {
            loans40(x);
            x.exclude(0, 8, 1);
            x.assign(9, 8, 1);
        }, FULL, "lend 1 9 0 30 0");
        refused(x -> {
            x.exclude(18, 8, 1);
            x.assign(9, 8, 1);
        }, STATE, "lend 2 9 18 30 5");
        refused(x -> {
            x.exclude(2, 8, 1);
            x.assign(9, 8, 1);
        }, STATE, "lend 1 9 2 30 0");
        refused(x -> {
            x.exclude(0, 8, 1);
            x.assign(9, 8, 1);
        }, BAD, "lend 1 9 0 5 0");
    }

    private static void takeBack() {
        CHECKS.sentence("BAD: no such one; STATE: it does not STAND.");
        refused(BAD, "takeBack 3");
        refused(BAD, "takeBack 39");
        refused(x -> x.takeBack(1), STATE, "takeBack 1");
        refused(x -> x.takeBack(0), STATE, "takeBack 1");
        refused(x -> x.step(45), STATE, "takeBack 1");
        refused(x -> x.assign(1, 0, 0), STATE, "takeBack 2");
        refused(x -> x.assign(1, 19, 0), STATE, "takeBack 1");
    }

    private static void feed() {
        CHECKS.sentence("A byte (1 .. 255) comes to THE TAPE: how many it has. BAD, FULL.");
        Consumer<AccessLattice> full = x -> Calls.feed(x, "&u0=77".repeat(13).substring(0, 75));
        refused(full, FULL, "feed 49");
        refused(full, FULL, "feed 255");
        refused(full, BAD, "feed 0");
        refused(full, BAD, "feed 256");
    }

    /** The first of these takes THE TAPE, so that it is fed anew. */
    private static void rules30(AccessLattice x) {
        for (int i = 3; i < 30; i++) {
            x.rule(5, 1, 0, 0, -1);
        }
        Calls.feed(x, "u0=77");
    }

    private static void rule() {
        CHECKS.sentence("BAD: no such KIND, ROLE, ACTS, THING, DEEP, FROM 0 .. 9999, TO above FROM or -1 (THE TAPE stays); "
                + "FULL: 30 numbers (THE TAPE stays).");
        refused(BAD, "rule 200 1 0 0 -1");
        refused(BAD, "rule 20 1 0 0 -1");
        refused(BAD, "rule 0 1 200 0 -1");
        refused(BAD, "rule 0 1 16 0 -1");
        refused(BAD, "rule 0 1 0 0 0");
        refused(BAD, "rule 0 1 0 9999 9999");
        refused(BAD, "rule 0 1 0 0 -2");
        refused(RefusalTest::rules30, FULL, "rule 0 1 0 0 -1");
        refused(x -> {
            rules30(x);
            x.off(29);
        }, FULL, "rule 0 1 0 0 -1");
        refused(RefusalTest::rules30, BAD, "rule 0 0 0 0 -1");
        Consumer<AccessLattice> wrongText = x -> x.feed('?');
        refused(wrongText, BAD, "rule 0 1 0 7 7");
        refused(x -> {
            rules30(x);
            wrongText.accept(x);
        }, FULL, "rule 0 1 0 0 -1");
    }

    /** But for THE TAPE, which is empty then. */
    private static void refusedBehindTheText(int answer, String text, String call) {
        AccessLattice x = Scene.make();
        AccessLattice untouched = Scene.make();
        Calls.feed(x, text);
        CHECKS.due(answer, Calls.call(x, call), call);
        CHECKS.due(0, x.count(5), call + " and then count");
        untouched.seniors();
        CHECKS.due(0, untouched.count(5), "seniors and then count");
        CHECKS.fine(Scene.look(x).equals(Scene.look(untouched)), call + " has changed something");
    }

    private static void ruleFaults() {
        CHECKS.sentence("THE TAPE is empty behind each call that reads it, by a FAULT, too.");
        refusedBehindTheText(-105, "?", "rule 0 1 0 0 -1");
        refusedBehindTheText(-106, "&", "rule 0 1 0 0 -1");
        refusedBehindTheText(-109, "&1=2=3", "rule 100 255 115 9999 10000");
        refusedBehindTheText(-100, "", "seniors");
        refusedBehindTheText(-100, "1>2", "seniors");
    }

    private static void goneRules() {
        CHECKS.sentence("BAD: also one that is off.");
        String[] calls = {"off 1", "of 1 0", "uses 1 5", "uses 1 -1", "left 1", "shadowed 1", "clash 1 -1", "decides 1 0",
            "decides 1 1"};
        for (String call : calls) {
            refused(x -> x.off(1), BAD, call);
        }
        refused(x -> {
            x.off(0);
            x.off(1);
            x.off(2);
        }, BAD, "off 2");
    }

    private static void noneYet() {
        CHECKS.sentence("A new object: no rules, no loans, none ahead of any, none in THE BOOK, no image.");
        String[] bad = {"takeBack 0", "loan 0 0", "off 0", "of 0 0", "uses 0 1", "left 0", "shadowed 0", "clash 0 -1",
            "decides 0 0"};
        String[] not = {"why 0 0", "why 0 1", "least 0 0 0 -1", "least 0 0 0 0", "until 0 0 0", "lose 0 0 0 0",
            "changes 0 0 0 0", "unlike 0 1 0", "book 0 0", "join 0 1 0", "join 0 1 1", "chain 0 1 -1", "chain 0 0 1",
            "senior 0 1 0", "assign 0 0 0", "exclude 0 1 0"};
        String[] nothing = {"holds 0 0", "who 0 0 0", "who 0 0 1", "where 0 0", "could 0 0 200", "lose 0 0 0 -1",
            "changes 0 0 0 -1", "ways 0 0", "idle 0", "unlike 0 1 -1", "roles 0 0", "roles 0 1", "level 0", "under 0",
            "chain 0 0 -1", "chain 0 0 0", "count 0", "count 5", "image"};
        for (String call : bad) {
            CHECKS.due(BAD, Calls.call(new AccessLattice(), call), call);
        }
        for (String call : not) {
            CHECKS.due(NOT, Calls.call(new AccessLattice(), call), call);
        }
        for (String call : nothing) {
            CHECKS.due(0, Calls.call(new AccessLattice(), call), call);
        }
        for (String call : List.of("since 0", "since 16", "back", "lend 0 1 0 1 0")) {
            CHECKS.due(STATE, Calls.call(new AccessLattice(), call), call);
        }
        CHECKS.due(BAD, new AccessLattice().since(17));
        CHECKS.due(-100, new AccessLattice().seniors());
    }

    private static void tooFew() {
        CHECKS.sentence("NOT: there are not as many.");
        refused(NOT, "left 1");
        refused(NOT, "why 3 0");
        refused(NOT, "why 2147483647 1");
        refused(BAD, "why 3 2");
        refused(NOT, "least 1 1 5 0");
        refused(NOT, "lose 2 0 8 0");
        refused(NOT, "until 5 1 5");
        refused(NOT, "changes 5 1 5 0");
        refused(NOT, "unlike 5 6 0");
        refused(NOT, "unlike 5 5 0");
        refused(NOT, "book 3 0");
        refused(BAD, "book 3 6");
        refused(NOT, "shadowed 0");
        refused(NOT, "clash 2 1");
        refused(NOT, "join 7 18 0");
        refused(NOT, "join 7 18 1");
        refused(NOT, "chain 6 7 0");
        refused(NOT, "chain 7 6 2");
    }

    private static void imageOfNone() {
        CHECKS.sentence("BAD; STATE: there is none.");
        AccessLattice x = new AccessLattice();
        x.assign(3, 5, 1);
        x.step(7);
        x.feed('1');
        CHECKS.due(STATE, x.back(), "back");
        CHECKS.due(STATE, x.since(3), "since 3");
        CHECKS.due(BAD, x.since(-1), "since -1");
        CHECKS.due(32, x.holds(3, 1), "holds 3 1");
        CHECKS.due(1, x.count(5), "count 5");
        CHECKS.due(7, x.image(), "image");
        CHECKS.due(0, x.since(16), "since 16");
    }

    private static void seniors() {
        CHECKS.sentence("how many SENIOR pairs came; -100 less the FAULT: nothing comes then.");
        AccessLattice x = new AccessLattice();
        CHECKS.due(-108, Calls.pairs(x, "0>1,1>2,"), "seniors");
        CHECKS.due(-104, Calls.pairs(x, "0>1,20>2,"), "seniors");
        CHECKS.due(-106, Calls.pairs(x, "0>1,1>20,"), "seniors");
        CHECKS.due(0, x.count(3), "count 3");
        CHECKS.due(0, x.count(5), "count 5");
    }

    private static void looking() {
        CHECKS.sentence("who(), where(), could(), least() and what else looks uses no USES and is in no BOOK.");
        List<Integer> untouched = Scene.look(Scene.make());
        String[] calls = {"loan 1 6", "holds 3 0", "of 2 7", "left 2", "why 1 1", "who 0 5 0", "who 0 8 1", "where 1 0",
            "could 0 5 200", "least 1 0 8 -1", "least 5 0 8 0", "until 1 0 5", "lose 1 0 5 -1", "lose 5 0 5 0",
            "changes 1 0 8 -1", "ways 3 18", "idle 1", "unlike 1 5 -1", "book 2 5", "shadowed 2", "clash 1 -1", "join 7 6 0",
            "roles 7 0", "level 7", "chain 7 6 1", "under 8", "decides 0 0", "decides 2 1", "since 16", "since 1", "count 2"};
        for (String call : calls) {
            AccessLattice x = Scene.make();
            int first = Calls.call(x, call);
            CHECKS.due(first, Calls.call(x, call), call);
            CHECKS.fine(Scene.look(x).equals(untouched), call + " has changed something");
        }
    }
}
