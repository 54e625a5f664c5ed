import java.lang.reflect.Method;
import java.util.ArrayList;
import java.util.LinkedHashMap;
import java.util.List;
import java.util.Map;
import java.util.Random;

/**
 * Runs of made-up calls (the same ones each time) on a new object and on the Model: each answer
 * must be the same. The first argument tells how many runs, the second one the first seed.
 */
public final class ModelTest {
    private static final Map<String, Method> REAL = new LinkedHashMap<>();
    private static final Map<String, Method> MODEL = new LinkedHashMap<>();

    private final Random random;
    private final AccessLattice real = new AccessLattice();
    private final Model model = new Model();
    private final List<String> told = new ArrayList<>();
    private final int roles, users, things, acts, costly, late;
    private final boolean lending;
    private int calls = 0, rules = 0, loans = 0;
    private boolean wrong = false;

    private ModelTest(long seed) {
        random = new Random(seed);
        roles = pick(4, 6, 10, 20);
        users = pick(3, 5, 16);
        things = pick(3, 6, 16);
        acts = pick(1, 2, 8);
        costly = pick(0, 2, 6);
        lending = random.nextBoolean();
        late = oneIn(8) ? 19 : 0;
    }

    private int pick(int... of) {
        return of[random.nextInt(of.length)];
    }

    private boolean oneIn(int n) {
        return random.nextInt(n) == 0;
    }

    private int call(String name, int... args) {
        if (calls >= 512 || wrong) {
            return 0;
        }
        calls++;
        Object[] boxed = new Object[args.length];
        StringBuilder text = new StringBuilder(name + "(");
        for (int i = 0; i < args.length; i++) {
            boxed[i] = args[i];
            text.append(i > 0 ? ", " : "").append(args[i]);
        }
        try {
            int got = (Integer) REAL.get(name).invoke(real, boxed);
            int due = (Integer) MODEL.get(name).invoke(model, boxed);
            told.add(text + ") = " + got);
            if (got != due) {
                wrong = true;
                System.out.println(String.join("\n", told));
                System.out.println("the last one should be " + due);
            }
            return got;
        } catch (ReflectiveOperationException problem) {
            wrong = true;
            System.out.println(String.join("\n", told) + "\n" + text + ") throws " + problem.getCause());
            return 0;
        }
    }

    private static int odd(Random random) {
        int[] odd = {-2, -1, 16, 20, 100, 119, 120, 255, 256, 300, 10000, Integer.MAX_VALUE, Integer.MIN_VALUE};
        return odd[random.nextInt(odd.length)];
    }

    private int number(int below) {
        return oneIn(150) ? odd(random) : random.nextInt(below);
    }

    private int role() {
        return number(roles);
    }

    private int user() {
        return number(users);
    }

    private int thing() {
        return number(things);
    }

    private int act() {
        return number(acts);
    }

    private int onOrOff() {
        return oneIn(100) ? odd(random) : oneIn(5) ? 0 : 1;
    }

    private int place(int most) {
        return oneIn(3) ? -1 : random.nextInt(most);
    }

    private String condition(int depth) {
        StringBuilder text = new StringBuilder();
        String[] atoms = {"u", "t", "n", "a", "d", "9", "1", "0", "12", "n"};
        int kind = random.nextInt(depth > 4 ? 2 : 6);
        if (kind <= 1) {
            String atom = atoms[random.nextInt(atoms.length)];
            text.append(atom);
            if (atom.equals("u") || atom.equals("t")) {
                text.append(random.nextInt(4));
            }
        } else if (kind == 2) {
            text.append("!-(".charAt(random.nextInt(3)));
            boolean bracket = text.charAt(0) == '(';
            text.append(bracket ? condition(depth + 1) + ")" : condition(depth + 1));
        } else {
            text.append(condition(depth + 1)).append("|&<=>+-*".charAt(random.nextInt(8)));
            text.append(condition(depth + 1));
        }
        return text.toString();
    }

    private void feedText(String text) {
        StringBuilder bent = new StringBuilder(text);
        if (oneIn(6) && bent.length() > 0) {
            int at = random.nextInt(bent.length());
            String signs = "!-(()|&<=>+*utnad0123456789, >z";
            char sign = signs.charAt(random.nextInt(signs.length()));
            if (oneIn(2)) {
                bent.insert(at, sign);
            } else {
                bent.setCharAt(at, sign);
            }
        }
        for (int i = 0; i < bent.length() && i < 82; i++) {
            call("feed", bent.charAt(i));
        }
    }

    private void makeRule() {
        if (oneIn(2)) {
            String text = condition(0);
            while (text.length() > 16) {
                text = condition(0);
            }
            feedText(text);
        }
        int role = oneIn(100) ? odd(random) : random.nextInt(roles) + (oneIn(3) ? 100 : 0);
        int kindOfActs = oneIn(100) ? odd(random) : 1 + random.nextInt((1 << acts) - 1);
        int thing = oneIn(100) ? odd(random) : random.nextInt(things) + (oneIn(2) ? 100 : 0);
        int from = oneIn(100) ? odd(random) : oneIn(3) ? Math.max(0, model.w.now - 20) + random.nextInt(60) : 0;
        int to = oneIn(100) ? odd(random) : oneIn(2) ? -1 : Math.max(from, model.w.now - 20) + random.nextInt(150);
        int number = call("rule", role, kindOfActs, thing, from, to);
        if (number >= 0) {
            rules = number + 1;
            if (oneIn(5)) {
                call("uses", number, oneIn(10) ? odd(random) : pick(1, 2, 99, -1));
            }
        }
    }

    private void makePairs() {
        StringBuilder text = new StringBuilder();
        int many = 1 + random.nextInt(4);
        for (int i = 0; i < many; i++) {
            text.append(i > 0 ? "," : "").append(random.nextInt(roles)).append('>');
            text.append(oneIn(9) ? "0" : "").append(random.nextInt(oneIn(20) ? 22 : roles));
        }
        feedText(text.toString());
        call("seniors");
    }

    private void lend() {
        int from = user();
        int held = from >= 0 && from < 16 ? model.holds(from, 0) : 0;
        int role = role();
        for (int i = 0; i < 6 && held != 0 && (held >> (role & 31) & 1) == 0; i++) {
            role = role();
        }
        int until = oneIn(60) ? odd(random) : model.w.now + random.nextInt(oneIn(2) ? 40 : 400);
        int number = call("lend", from, user(), role, until, oneIn(60) ? odd(random) : random.nextInt(6));
        loans = Math.max(loans, number + 1);
    }

    private void tell() {
        switch (random.nextInt(12)) {
            case 0 -> call("attribute", oneIn(50) ? odd(random) : random.nextInt(2), thing(),
                    oneIn(50) ? 4 : random.nextInt(4), oneIn(20) ? odd(random) : random.nextInt(14));
            case 1 -> call("within", thing(), oneIn(5) ? -1 : thing());
            case 2, 3 -> call("senior", role(), role(), onOrOff());
            case 4, 5 -> call("assign", user(), role(), onOrOff());
            case 6 -> call("exclude", role(), role(), onOrOff());
            case 7 -> call("step", oneIn(20) ? odd(random) : 1 + random.nextInt(oneIn(20) ? 500 : 12));
            case 8 -> makeRule();
            case 9 -> {
                if (oneIn(3)) {
                    makePairs();
                } else {
                    makeRule();
                }
            }
            case 10 -> {
                if (oneIn(4)) {
                    call(pick(0, 1, 2) == 0 ? "image" : "back");
                } else if (rules > 6 || oneIn(5)) {
                    call("off", number(Math.max(1, rules)));
                }
            }
            default -> {
                if (lending || oneIn(3)) {
                    lend();
                    if (oneIn(4)) {
                        call("takeBack", number(Math.max(1, loans)));
                    }
                }
            }
        }
    }

    private void ask() {
        int rule = number(Math.max(1, rules));
        switch (random.nextInt(26)) {
            case 0 -> call("loan", number(Math.max(1, loans)), number(7));
            case 1 -> call("holds", user(), number(3));
            case 2 -> call("of", rule, number(8));
            case 3 -> call("left", rule);
            case 4, 5, 6 -> mayAndWhy();
            case 7 -> call("who", act(), thing(), number(2));
            case 8 -> call("where", user(), act());
            case 9 -> call("could", act(), thing(), oneIn(2) ? number(201) : random.nextInt(20));
            case 10 -> searching("least", costly * 2);
            case 11 -> searching("lose", costly);
            case 12 -> call("until", user(), act(), thing());
            case 13 -> call("changes", user(), act(), thing(), place(4));
            case 14 -> call("ways", user(), role());
            case 15 -> call("idle", user());
            case 16 -> call("unlike", user(), user(), place(40));
            case 17 -> call("book", number(31), number(6));
            case 18 -> call("shadowed", rule);
            case 19 -> call("clash", rule, place(3));
            case 20 -> call("join", role(), role(), number(2));
            case 21 -> call("roles", role(), number(2));
            case 22 -> call("chain", role(), role(), place(4));
            case 23 -> {
                call("level", role());
                call("under", thing());
            }
            case 24 -> {
                if (oneIn(3)) {
                    call("decides", rule, number(2));
                    call("since", number(17));
                }
            }
            default -> call("count", number(9));
        }
    }

    private void searching(String name, int most) {
        int user = user();
        int act = act();
        int thing = thing();
        if (most == 0 || random.nextInt(6) >= most) {
            return;
        }
        int many = call(name, user, act, thing, -1);
        if (many > 0) {
            call(name, user, act, thing, random.nextInt(4));
        }
    }

    private void mayAndWhy() {
        if (call("may", user(), act(), thing()) > 0) {
            int n = model.grounds.size();
            for (int i = 0; i <= n && (n < 4 || i != 1); i++) {
                call("why", i, 0);
                call("why", i, 1);
            }
        } else if (oneIn(4)) {
            call("why", place(3), number(2));
        }
    }

    private boolean run() {
        for (int i = 0; i < late; i++) {
            call("step", 500);
        }
        if (late > 0) {
            call("step", 400 + random.nextInt(100));
        }
        int opening = calls + 30 + random.nextInt(60);
        while (calls < 512 && !wrong) {
            if (calls < opening || oneIn(2)) {
                tell();
            } else {
                ask();
            }
        }
        return !wrong;
    }

    public static void main(String[] args) {
        int runs = args.length > 0 ? Integer.parseInt(args[0]) : 400;
        long seed = args.length > 1 ? Long.parseLong(args[1]) : 1;
        for (Method method : AccessLattice.class.getDeclaredMethods()) {
            if (java.lang.reflect.Modifier.isPublic(method.getModifiers())) {
                REAL.put(method.getName(), method);
            }
        }
        for (Method method : Model.class.getDeclaredMethods()) {
            if (REAL.containsKey(method.getName())) {
                MODEL.put(method.getName(), method);
            }
        }
        int wrong = REAL.size() == 42 && MODEL.size() == 42 ? 0 : 1;
        for (int i = 0; i < runs && wrong == 0; i++) {
            if (!new ModelTest(seed + i).run()) {
                System.out.println("in the run of seed " + (seed + i));
                wrong++;
            }
        }
        System.out.println(wrong == 0 ? runs + " runs are like the model's" : "a run is not like the model's");
        if (wrong != 0) {
            System.exit(1);
        }
    }
}
