import java.util.ArrayList;
import java.util.List;
import java.util.TreeSet;

/**
 * Of every number of every call: the last that is taken and the first that is not, on either side;
 * and that a call with a number that is not taken changes nothing.
 */
public final class RangeTest {
    /** A call, and of each of its numbers: a usual one, and from where to where it is taken. */
    private static final String[] TAKEN = {
        "attribute; 0 in 0..1; 5 in 0..15; 2 in 0..3; 50 in 0..99",
        "within; 5 in 0..15; 9 in -1..15",
        "senior; 5 in 0..19; 6 in 0..19; 1 in 0..1",
        "assign; 5 in 0..15; 6 in 0..19; 1 in 0..1",
        "exclude; 5 in 0..19; 6 in 0..19; 1 in 0..1",
        "step; 9 in 1..500",
        "lend; 1 in 0..15; 9 in 0..15; 7 in 0..19; 30 in 6..max; 2 in 0..5",
        "takeBack; 1 in 0..2",
        "loan; 1 in 0..2; 0 in 0..6",
        "holds; 5 in 0..15; 1 in 0..2",
        "feed; 50 in 1..255",
        "rule; 5 in 0..19,100..119; 9 in 1..255; 5 in 0..15,100..115; 5 in 0..9999; 20000 in -1..-1,6..max",
        "off; 1 in 0..2",
        "of; 1 in 0..2; 0 in 0..7",
        "uses; 1 in 0..2; 5 in -1..-1,1..99",
        "left; 1 in 0..2",
        "seniors",
        "may; 5 in 0..15; 5 in 0..7; 5 in 0..15",
        "why; 0 in 0..max; 0 in 0..1",
        "who; 5 in 0..7; 5 in 0..15; 0 in 0..1",
        "where; 5 in 0..15; 5 in 0..7",
        "could; 5 in 0..7; 5 in 0..15; 20 in 0..200",
        "least; 5 in 0..15; 5 in 0..7; 5 in 0..15; 0 in -1..max",
        "until; 5 in 0..15; 5 in 0..7; 5 in 0..15",
        "lose; 5 in 0..15; 5 in 0..7; 5 in 0..15; 0 in -1..max",
        "changes; 5 in 0..15; 5 in 0..7; 5 in 0..15; 0 in -1..max",
        "ways; 5 in 0..15; 5 in 0..19",
        "idle; 5 in 0..15",
        "unlike; 5 in 0..15; 6 in 0..15; 0 in -1..max",
        "book; 0 in 0..max; 0 in 0..5",
        "shadowed; 1 in 0..2",
        "clash; 1 in 0..2; 0 in -1..max",
        "join; 5 in 0..19; 6 in 0..19; 0 in 0..1",
        "roles; 5 in 0..19; 0 in 0..1",
        "level; 5 in 0..19",
        "chain; 5 in 0..19; 6 in 0..19; 0 in -1..max",
        "under; 5 in 0..15",
        "decides; 1 in 0..2; 0 in 0..1",
        "since; 5 in 0..16",
        "image",
        "back",
        "count; 5 in 0..8",
    };

    private static final Checks CHECKS = new Checks();
    private static final List<Integer> UNTOUCHED = Scene.look(Scene.make());

    public static void main(String[] args) {
        TreeSet<String> names = new TreeSet<>();
        for (String row : TAKEN) {
            names.add(row.split("; ")[0]);
            checkRow(row.split("; "));
        }
        for (String name : Calls.names()) {
            CHECKS.fine(names.contains(name), name + " has no row");
        }
        CHECKS.close();
    }

    private static void checkRow(String[] row) {
        CHECKS.sentence(String.join("; ", row));
        int[] usual = new int[row.length - 1];
        for (int i = 0; i < usual.length; i++) {
            usual[i] = Integer.parseInt(row[i + 1].split(" in ")[0]);
        }
        taken(row[0], usual);
        for (int i = 0; i < usual.length; i++) {
            List<long[]> spans = spans(row[i + 1].split(" in ")[1]);
            for (long edge : edges(spans)) {
                int[] numbers = usual.clone();
                numbers[i] = (int) edge;
                if (isIn(spans, edge)) {
                    taken(row[0], numbers);
                } else {
                    refused(row[0], numbers);
                }
            }
        }
    }

    private static List<long[]> spans(String text) {
        List<long[]> spans = new ArrayList<>();
        for (String span : text.split(",")) {
            String[] ends = span.split("\\.\\.");
            long most = ends[1].equals("max") ? Integer.MAX_VALUE : Long.parseLong(ends[1]);
            spans.add(new long[] {Long.parseLong(ends[0]), most});
        }
        return spans;
    }

    private static boolean isIn(List<long[]> spans, long number) {
        for (long[] span : spans) {
            if (number >= span[0] && number <= span[1]) {
                return true;
            }
        }
        return false;
    }

    private static TreeSet<Long> edges(List<long[]> spans) {
        TreeSet<Long> edges = new TreeSet<>(List.of((long) Integer.MIN_VALUE, (long) Integer.MAX_VALUE));
        for (long[] span : spans) {
            edges.addAll(List.of(span[0] - 1, span[0], span[1], span[1] + 1));
        }
        edges.remove(Integer.MAX_VALUE + 1L);
        return edges;
    }

    private static String told(String name, int[] numbers) {
        return name + java.util.Arrays.toString(numbers);
    }

    private static void taken(String name, int[] numbers) {
        int answer = Calls.call(Scene.make(), name, numbers);
        CHECKS.fine(answer != AccessLattice.BAD, told(name, numbers) + " answered BAD");
    }

    private static void refused(String name, int[] numbers) {
        AccessLattice x = Scene.make();
        CHECKS.due(AccessLattice.BAD, Calls.call(x, name, numbers), told(name, numbers));
        CHECKS.fine(Scene.look(x).equals(UNTOUCHED), told(name, numbers) + " has changed something");
    }
}
