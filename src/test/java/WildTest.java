import java.lang.reflect.Method;
import java.lang.reflect.Modifier;
import java.util.ArrayList;
import java.util.Comparator;
import java.util.List;
import java.util.Random;

/** That no call throws, whatever its numbers and however many calls there were; no answer is looked at. */
public final class WildTest {
    private static final int[] EDGES = {-1, 0, 1, 2, 5, 7, 8, 15, 16, 19, 20, 29, 30, 39, 40, 41, 80, 99, 100, 115, 119,
        120, 200, 255, 256, 9999, 10000, Integer.MAX_VALUE, Integer.MIN_VALUE};
    private static final String TEXT = "!-(()|&<=>+*utnad0123456789,>>";

    public static void main(String[] args) throws ReflectiveOperationException {
        List<Method> methods = new ArrayList<>();
        for (Method method : AccessLattice.class.getDeclaredMethods()) {
            if (Modifier.isPublic(method.getModifiers())) {
                methods.add(method);
            }
        }
        methods.sort(Comparator.comparing(Method::getName));
        for (int seed = 0; seed < 60; seed++) {
            Random random = new Random(seed);
            AccessLattice x = new AccessLattice();
            int small = new int[] {2, 4, 20}[seed % 3];
            for (int i = 0; i < 4000; i++) {
                Method method = methods.get(random.nextInt(methods.size()));
                Object[] numbers = new Object[method.getParameterCount()];
                for (int k = 0; k < numbers.length; k++) {
                    boolean edge = random.nextInt(12) == 0;
                    numbers[k] = edge ? EDGES[random.nextInt(EDGES.length)] : random.nextInt(small);
                }
                method.invoke(x, numbers);
                if (random.nextInt(3) == 0) {
                    x.feed(TEXT.charAt(random.nextInt(TEXT.length())));
                }
                if (random.nextInt(40) == 0) {
                    x.rule(random.nextInt(small), 255, 100 + random.nextInt(4), 0, -1);
                }
            }
        }
        System.out.println("no call throws");
    }
}
