import java.util.ArrayList;
import java.util.List;

/** An object with something of everything in it, and all of it that can be seen from outside. */
final class Scene {
    private Scene() {
    }

    static AccessLattice make() {
        AccessLattice x = new AccessLattice();
        for (int i = 0; i < 16; i++) {
            x.assign(i, 7, 1);
            x.attribute(0, i, i % 4, 20 + i);
            x.attribute(1, i, 3 - i % 4, 40 + i);
            if (i != 8) {
                x.within(i, 8);
            }
        }
        x.attribute(0, 1, 0, 77);
        x.assign(1, 0, 1);
        x.assign(1, 19, 1);
        x.senior(7, 6, 1);
        x.senior(19, 18, 1);
        x.exclude(3, 4, 1);
        x.rule(7, 255, 108, 0, -1);
        x.rule(106, 1, 8, 0, 500);
        Calls.feed(x, "u0<99");
        x.rule(6, 3, 5, 2, 900);
        x.uses(0, 9);
        x.lend(1, 2, 19, 60, 5);
        x.lend(2, 3, 19, 50, 4);
        x.lend(1, 4, 0, 70, 0);
        x.step(3);
        x.may(1, 1, 5);
        x.image();
        x.may(2, 0, 8);
        x.assign(9, 1, 1);
        x.step(2);
        x.may(3, 1, 8);
        Calls.feed(x, "u0=77");
        return x;
    }

    /** The object is spent by that: some of it is only seen by calls that change it. */
    static List<Integer> look(AccessLattice x) {
        List<Integer> seen = new ArrayList<>();
        lookAtState(x, seen);
        for (int user = 0; user < 16; user++) {
            for (int k = 0; k < 4; k++) {
                seen.add(x.attribute(0, user, k, 0));
                seen.add(x.attribute(1, user, k, 0));
            }
        }
        seen.add(x.exclude(3, 4, 1));
        seen.add(x.exclude(3, 4, 0));
        seen.add(x.image());
        return seen;
    }

    private static void lookAtState(AccessLattice x, List<Integer> seen) {
        for (int what = 0; what < 9; what++) {
            seen.add(x.count(what));
        }
        for (int i = 0; i < 5; i++) {
            seen.add(x.why(i, 0));
            seen.add(x.why(i, 1));
            seen.add(x.left(i));
            for (int what = 0; what < 8; what++) {
                seen.add(x.of(i, what));
                seen.add(x.loan(i, what));
                seen.add(x.book(i, what));
            }
        }
        for (int i = 0; i < 20; i++) {
            seen.add(x.roles(i, 0));
            seen.add(x.under(i));
            seen.add(x.holds(i, 0));
            seen.add(x.holds(i, 1));
        }
        lookAtTapeAndImage(x, seen);
    }

    private static void lookAtTapeAndImage(AccessLattice x, List<Integer> seen) {
        seen.add(x.since(16));
        seen.add(x.rule(100, 128, 0, 0, -1));
        seen.add(x.who(7, 0, 1));
        seen.add(x.since(16));
    }
}
