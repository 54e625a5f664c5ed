import java.util.ArrayList;
import java.util.List;
import java.util.Set;
import java.util.TreeSet;

/**
 * The document once more, as plainly as can be and with the whole Java library, for tests that
 * compare answers: nothing is kept that can be worked out, and all searches try everything.
 */
final class Model {
    static final int BAD = -1, NOT = -2, FULL = -3, RING = -4, STATE = -5, EXCLUDED = -6;

    record Pair(int high, int low) { }

    static final class Loan {
        int from, to, role, until, further, source;
        boolean taken;

        Loan copy() {
            Loan other = new Loan();
            other.from = from;
            other.to = to;
            other.role = role;
            other.until = until;
            other.further = further;
            other.source = source;
            other.taken = taken;
            return other;
        }
    }

    static final class Rule {
        int kind, role, acts, thing, deep, from, to;
        int uses = -1;
        String condition = "";
        boolean off;

        Rule copy() {
            Rule other = new Rule();
            other.kind = kind;
            other.role = role;
            other.acts = acts;
            other.thing = thing;
            other.deep = deep;
            other.from = from;
            other.to = to;
            other.uses = uses;
            other.condition = condition;
            other.off = off;
            return other;
        }

        boolean inTime(int tick) {
            return from <= tick && (to == -1 || tick < to);
        }
    }

    static final class World {
        int now;
        int[][][] attributes = new int[2][16][4];
        int[] in = new int[16];
        List<Pair> pairs = new ArrayList<>();
        List<Set<Integer>> assigned = new ArrayList<>();
        List<Set<Integer>> excluded = new ArrayList<>();
        List<Loan> loans = new ArrayList<>();
        List<Rule> rules = new ArrayList<>();
        List<int[]> book = new ArrayList<>();
        int[] tally = new int[3];

        World() {
            for (int i = 0; i < 16; i++) {
                in[i] = -1;
                assigned.add(new TreeSet<>());
            }
        }

        World copy() {
            World other = new World();
            other.now = now;
            for (int side = 0; side < 2; side++) {
                for (int i = 0; i < 16; i++) {
                    other.attributes[side][i] = attributes[side][i].clone();
                }
            }
            other.in = in.clone();
            other.pairs.addAll(pairs);
            for (int i = 0; i < 16; i++) {
                other.assigned.get(i).addAll(assigned.get(i));
            }
            for (Set<Integer> pair : excluded) {
                other.excluded.add(new TreeSet<>(pair));
            }
            for (Loan loan : loans) {
                other.loans.add(loan.copy());
            }
            for (Rule rule : rules) {
                other.rules.add(rule.copy());
            }
            for (int[] row : book) {
                other.book.add(row.clone());
            }
            other.tally = tally.clone();
            return other;
        }

        boolean isSenior(int high, int low) {
            for (Pair pair : pairs) {
                if (pair.high == high && (pair.low == low || isSenior(pair.low, low))) {
                    return true;
                }
            }
            return false;
        }

        boolean isOrSenior(int high, int low) {
            return high == low || isSenior(high, low);
        }

        int depth(int thing, int other) {
            if (thing == -1) {
                return -1;
            }
            if (thing == other) {
                return 0;
            }
            int more = depth(in[thing], other);
            return more < 0 ? -1 : more + 1;
        }

        boolean holdsByAssigned(int user, int role) {
            for (int own : assigned.get(user)) {
                if (isOrSenior(own, role)) {
                    return true;
                }
            }
            return false;
        }

        boolean stands(int number, int tick) {
            Loan loan = loans.get(number);
            if (tick >= loan.until || loan.taken) {
                return false;
            }
            return loan.source == -1 ? holdsByAssigned(loan.from, loan.role) : stands(loan.source, tick);
        }

        boolean holds(int user, int role, int tick) {
            if (holdsByAssigned(user, role)) {
                return true;
            }
            for (int i = 0; i < loans.size(); i++) {
                Loan loan = loans.get(i);
                if (loan.to == user && isOrSenior(loan.role, role) && stands(i, tick)) {
                    return true;
                }
            }
            return false;
        }

        boolean holdsExcluded(int user) {
            for (Set<Integer> pair : excluded) {
                boolean all = true;
                for (int role : pair) {
                    all &= holds(user, role, now);
                }
                if (all) {
                    return true;
                }
            }
            return false;
        }

        boolean anyHoldsExcluded() {
            for (int user = 0; user < 16; user++) {
                if (holdsExcluded(user)) {
                    return true;
                }
            }
            return false;
        }

        boolean applies(int number, int user, int act, int thing, int tick) {
            Rule rule = rules.get(number);
            int depth = depth(thing, rule.thing);
            if (rule.off || rule.uses == 0 || !rule.inTime(tick) || (rule.acts >> act & 1) == 0) {
                return false;
            }
            if (depth < 0 || depth > 0 && rule.deep == 0 || !holds(user, rule.role, tick)) {
                return false;
            }
            if (rule.condition.isEmpty()) {
                return true;
            }
            Condition condition = new Condition(rule.condition);
            condition.user = attributes[0][user];
            condition.thing = attributes[1][thing];
            condition.now = tick;
            condition.act = act;
            condition.depth = depth;
            return condition.value() != 0;
        }

        /** The deciding RULE, or -1. */
        int decider(int user, int act, int thing, int tick) {
            for (int kind = 1; kind >= 0; kind--) {
                for (int i = 0; i < rules.size(); i++) {
                    if (rules.get(i).kind == kind && applies(i, user, act, thing, tick)) {
                        return i;
                    }
                }
            }
            return -1;
        }

        int answer(int user, int act, int thing, int tick) {
            int rule = decider(user, act, thing, tick);
            return rule < 0 ? 0 : rules.get(rule).kind + 1;
        }
    }

    /** A CONDITION read and worked out at once, by the document's grammar; a fault is thrown. */
    static final class Condition {
        static final class Fault extends RuntimeException {
            private static final long serialVersionUID = 1L;
            final int place;

            Fault(int place) {
                this.place = place;
            }
        }

        final String text;
        int at = 0, open = 0;
        int[] user = new int[4], thing = new int[4];
        int now, act, depth;

        Condition(String text) {
            this.text = text;
        }

        static int fault(String text) {
            try {
                new Condition(text).value();
                return -1;
            } catch (Fault fault) {
                return fault.place;
            }
        }

        int value() {
            int value = e();
            if (at < text.length()) {
                throw new Fault(at);
            }
            return value;
        }

        private char next() {
            return at < text.length() ? text.charAt(at) : 0;
        }

        private boolean take(char c) {
            if (next() == c && at < text.length()) {
                at++;
                return true;
            }
            return false;
        }

        private int e() {
            int value = a();
            while (take('|')) {
                int more = a();
                value = value != 0 || more != 0 ? 1 : 0;
            }
            return value;
        }

        private int a() {
            int value = c();
            while (take('&')) {
                int more = c();
                value = value != 0 && more != 0 ? 1 : 0;
            }
            return value;
        }

        private int c() {
            int value = s();
            if (take('<')) {
                return value < s() ? 1 : 0;
            }
            if (take('=')) {
                return value == s() ? 1 : 0;
            }
            if (take('>')) {
                return value > s() ? 1 : 0;
            }
            return value;
        }

        private int s() {
            int value = p();
            while (true) {
                if (take('+')) {
                    value += p();
                } else if (take('-')) {
                    value -= p();
                } else {
                    return value;
                }
            }
        }

        private int p() {
            int value = u();
            while (take('*')) {
                value *= u();
            }
            return value;
        }

        private void open() {
            if (open == 6) {
                throw new Fault(at);
            }
            open++;
            at++;
        }

        private int u() {
            char c = next();
            if (c >= '0' && c <= '9') {
                int value = 0;
                for (int i = 0; i < 3 && next() >= '0' && next() <= '9'; i++) {
                    value = 10 * value + next() - '0';
                    at++;
                }
                return value;
            }
            if (c == '!' || c == '-') {
                open();
                int value = u();
                open--;
                return c == '-' ? -value : value == 0 ? 1 : 0;
            }
            if (c == '(') {
                open();
                int value = e();
                if (!take(')')) {
                    throw new Fault(at);
                }
                open--;
                return value;
            }
            if (c == 'u' || c == 't') {
                at++;
                if (next() < '0' || next() > '3') {
                    throw new Fault(at);
                }
                int k = next() - '0';
                at++;
                return c == 'u' ? user[k] : thing[k];
            }
            if (take('n')) {
                return now;
            }
            if (take('a')) {
                return act;
            }
            if (take('d')) {
                return depth;
            }
            throw new Fault(at);
        }
    }

    World w = new World();
    World image = null;
    StringBuilder tape = new StringBuilder();
    List<int[]> grounds = new ArrayList<>();

    private static boolean in(int v, int low, int high) {
        return v >= low && v <= high;
    }

    private static boolean isAsked(int user, int act, int thing) {
        return in(user, 0, 15) && in(act, 0, 7) && in(thing, 0, 15);
    }

    private boolean isRule(int rule) {
        return in(rule, 0, w.rules.size() - 1) && !w.rules.get(rule).off;
    }

    private boolean isLoan(int loan) {
        return in(loan, 0, w.loans.size() - 1);
    }

    int attribute(int side, int of, int k, int v) {
        if (!in(side, 0, 1) || !in(of, 0, 15) || !in(k, 0, 3) || !in(v, 0, 99)) {
            return BAD;
        }
        int was = w.attributes[side][of][k];
        w.attributes[side][of][k] = v;
        return was;
    }

    int within(int thing, int other) {
        if (!in(thing, 0, 15) || !in(other, -1, 15)) {
            return BAD;
        }
        if (other != -1 && w.depth(other, thing) >= 0) {
            return RING;
        }
        int was = w.in[thing];
        w.in[thing] = other;
        return was;
    }

    int senior(int role, int other, int on) {
        if (!in(role, 0, 19) || !in(other, 0, 19) || !in(on, 0, 1)) {
            return BAD;
        }
        Pair pair = new Pair(role, other);
        if (w.pairs.contains(pair) == (on == 1)) {
            return NOT;
        }
        if (on == 0) {
            w.pairs.remove(pair);
            return w.pairs.size();
        }
        if (w.pairs.size() == 40) {
            return FULL;
        }
        if (w.isOrSenior(other, role)) {
            return RING;
        }
        w.pairs.add(pair);
        if (w.anyHoldsExcluded()) {
            w.pairs.remove(pair);
            return EXCLUDED;
        }
        return w.pairs.size();
    }

    int assign(int user, int role, int on) {
        if (!in(user, 0, 15) || !in(role, 0, 19) || !in(on, 0, 1)) {
            return BAD;
        }
        Set<Integer> roles = w.assigned.get(user);
        if (roles.contains(role) == (on == 1)) {
            return NOT;
        }
        if (on == 0) {
            roles.remove(role);
            return roles.size();
        }
        roles.add(role);
        if (w.anyHoldsExcluded()) {
            roles.remove(role);
            return EXCLUDED;
        }
        return roles.size();
    }

    int exclude(int a, int b, int on) {
        if (!in(a, 0, 19) || !in(b, 0, 19) || a == b || !in(on, 0, 1)) {
            return BAD;
        }
        Set<Integer> pair = new TreeSet<>(Set.of(a, b));
        if (w.excluded.contains(pair) == (on == 1)) {
            return NOT;
        }
        if (on == 0) {
            w.excluded.remove(pair);
            return w.excluded.size();
        }
        if (w.excluded.size() == 10) {
            return FULL;
        }
        for (int user = 0; user < 16; user++) {
            if (w.holds(user, a, w.now) && w.holds(user, b, w.now)) {
                return EXCLUDED;
            }
        }
        w.excluded.add(pair);
        return w.excluded.size();
    }

    int step(int n) {
        if (!in(n, 1, 500)) {
            return BAD;
        }
        if (w.now + n > 9999) {
            return FULL;
        }
        w.now += n;
        return w.now;
    }

    int lend(int from, int to, int role, int until, int further) {
        if (!in(from, 0, 15) || !in(to, 0, 15) || from == to || !in(role, 0, 19) || !in(further, 0, 5)
                || until <= w.now) {
            return BAD;
        }
        if (w.loans.size() == 40) {
            return FULL;
        }
        if (!w.holds(from, role, w.now)) {
            return STATE;
        }
        int source = -1;
        if (!w.holdsByAssigned(from, role)) {
            for (int i = w.loans.size() - 1; i >= 0; i--) {
                Loan loan = w.loans.get(i);
                if (loan.to == from && w.stands(i, w.now) && loan.further > further
                        && w.isOrSenior(loan.role, role)) {
                    source = i;
                }
            }
            if (source == -1) {
                return STATE;
            }
        }
        Loan loan = new Loan();
        loan.from = from;
        loan.to = to;
        loan.role = role;
        loan.until = until;
        loan.further = further;
        loan.source = source;
        w.loans.add(loan);
        if (w.holdsExcluded(to)) {
            w.loans.remove(w.loans.size() - 1);
            return EXCLUDED;
        }
        return w.loans.size() - 1;
    }

    private int standing() {
        int n = 0;
        for (int i = 0; i < w.loans.size(); i++) {
            n += w.stands(i, w.now) ? 1 : 0;
        }
        return n;
    }

    int takeBack(int loan) {
        if (!isLoan(loan)) {
            return BAD;
        }
        if (!w.stands(loan, w.now)) {
            return STATE;
        }
        int before = standing();
        w.loans.get(loan).taken = true;
        return before - standing();
    }

    int loan(int number, int what) {
        if (!isLoan(number) || !in(what, 0, 6)) {
            return BAD;
        }
        Loan loan = w.loans.get(number);
        int stands = w.stands(number, w.now) ? 1 : 0;
        return new int[] {loan.from, loan.to, loan.role, loan.until, loan.further, loan.source, stands}[what];
    }

    int holds(int user, int way) {
        if (!in(user, 0, 15) || !in(way, 0, 2)) {
            return BAD;
        }
        int bits = 0;
        for (int role = 0; role < 20; role++) {
            boolean yes = way == 0 ? w.holds(user, role, w.now)
                    : way == 1 ? w.assigned.get(user).contains(role) : w.holdsByAssigned(user, role);
            bits |= yes ? 1 << role : 0;
        }
        return bits;
    }

    int feed(int letter) {
        if (!in(letter, 1, 255)) {
            return BAD;
        }
        if (tape.length() == 80) {
            return FULL;
        }
        tape.append((char) letter);
        return tape.length();
    }

    int rule(int role, int acts, int thing, int from, int to) {
        if (!in(role, 0, 19) && !in(role, 100, 119) || !in(acts, 1, 255)
                || !in(thing, 0, 15) && !in(thing, 100, 115) || !in(from, 0, 9999)
                || to <= from && to != -1) {
            return BAD;
        }
        if (w.rules.size() == 30) {
            return FULL;
        }
        String text = tape.toString();
        tape.setLength(0);
        if (!text.isEmpty() && Condition.fault(text) >= 0) {
            return -100 - Condition.fault(text);
        }
        Rule rule = new Rule();
        rule.kind = role / 100;
        rule.role = role % 100;
        rule.acts = acts;
        rule.deep = thing / 100;
        rule.thing = thing % 100;
        rule.from = from;
        rule.to = to;
        rule.condition = text;
        w.rules.add(rule);
        return w.rules.size() - 1;
    }

    private int there() {
        int n = 0;
        for (Rule rule : w.rules) {
            n += rule.off ? 0 : 1;
        }
        return n;
    }

    int off(int rule) {
        if (!isRule(rule)) {
            return BAD;
        }
        w.rules.get(rule).off = true;
        return there();
    }

    int of(int number, int what) {
        if (!isRule(number) || !in(what, 0, 7)) {
            return BAD;
        }
        Rule rule = w.rules.get(number);
        return new int[] {rule.kind, rule.role, rule.acts, rule.thing, rule.deep, rule.from, rule.to,
            rule.condition.isEmpty() ? 0 : 1}[what];
    }

    int uses(int rule, int n) {
        if (!isRule(rule) || !in(n, 1, 99) && n != -1) {
            return BAD;
        }
        w.rules.get(rule).uses = n;
        return 1;
    }

    int left(int rule) {
        if (!isRule(rule)) {
            return BAD;
        }
        return w.rules.get(rule).uses == -1 ? NOT : w.rules.get(rule).uses;
    }

    /** The TEXT of pairs; its FAULT as the only element but for an empty list of pairs. */
    private static int readPairs(String text, List<Pair> pairs) {
        int at = 0;
        while (true) {
            int[] two = new int[2];
            for (int half = 0; half < 2; half++) {
                int end = at;
                while (end < text.length() && end < at + 2 && text.charAt(end) >= '0' && text.charAt(end) <= '9') {
                    end++;
                }
                if (end == at || Integer.parseInt(text.substring(at, end)) > 19) {
                    return at;
                }
                two[half] = Integer.parseInt(text.substring(at, end));
                at = end;
                if (half == 0) {
                    if (at >= text.length() || text.charAt(at) != '>') {
                        return at;
                    }
                    at++;
                }
            }
            pairs.add(new Pair(two[0], two[1]));
            if (at == text.length()) {
                return -1;
            }
            if (text.charAt(at) != ',') {
                return at;
            }
            at++;
        }
    }

    int seniors() {
        List<Pair> pairs = new ArrayList<>();
        int fault = readPairs(tape.toString(), pairs);
        tape.setLength(0);
        if (fault >= 0) {
            return -100 - fault;
        }
        int came = 0;
        while (came < pairs.size() && senior(pairs.get(came).high, pairs.get(came).low, 1) >= 0) {
            came++;
        }
        return came;
    }

    int may(int user, int act, int thing) {
        if (!isAsked(user, act, thing)) {
            return BAD;
        }
        int rule = w.decider(user, act, thing, w.now);
        int answer = rule < 0 ? 0 : w.rules.get(rule).kind + 1;
        grounds = new ArrayList<>();
        if (rule >= 0) {
            grounds.add(new int[] {1, rule});
            tellRoles(user, w.rules.get(rule).role);
            if (w.rules.get(rule).uses > 0) {
                w.rules.get(rule).uses--;
            }
        }
        w.book.add(new int[] {w.now, user, act, thing, answer, rule});
        if (w.book.size() > 30) {
            w.book.remove(0);
        }
        w.tally[answer]++;
        return answer;
    }

    private void tellRoles(int user, int role) {
        List<Integer> way = null;
        if (w.holdsByAssigned(user, role)) {
            for (int own : w.assigned.get(user)) {
                way = better(way, up(role, own));
            }
            for (int r : way) {
                grounds.add(new int[] {2, r});
            }
            grounds.add(new int[] {4, user});
            return;
        }
        for (int i = 0; i < w.loans.size(); i++) {
            if (w.loans.get(i).to == user && w.stands(i, w.now)) {
                way = better(way, up(role, w.loans.get(i).role));
            }
        }
        for (int r : way) {
            grounds.add(new int[] {2, r});
        }
        int loan = 0;
        while (w.loans.get(loan).to != user || !w.stands(loan, w.now)
                || w.loans.get(loan).role != way.get(way.size() - 1)) {
            loan++;
        }
        while (loan != -1) {
            grounds.add(new int[] {3, loan});
            if (w.loans.get(loan).source == -1) {
                grounds.add(new int[] {4, w.loans.get(loan).from});
            }
            loan = w.loans.get(loan).source;
        }
    }

    private static List<Integer> better(List<Integer> a, List<Integer> b) {
        if (a == null || b == null) {
            return a == null ? b : a;
        }
        if (a.size() != b.size()) {
            return a.size() < b.size() ? a : b;
        }
        for (int i = 0; i < a.size(); i++) {
            if (!a.get(i).equals(b.get(i))) {
                return a.get(i) < b.get(i) ? a : b;
            }
        }
        return a;
    }

    /** The best way up from a ROLE to another one; null if there is none. */
    private List<Integer> up(int low, int high) {
        if (low == high) {
            return List.of(low);
        }
        List<Integer> best = null;
        for (Pair pair : w.pairs) {
            if (pair.low == low) {
                List<Integer> rest = up(pair.high, high);
                if (rest != null) {
                    List<Integer> all = new ArrayList<>(List.of(low));
                    all.addAll(rest);
                    best = better(best, all);
                }
            }
        }
        return best;
    }

    private List<Integer> down(int high, int low) {
        if (low == high) {
            return List.of(low);
        }
        List<Integer> best = null;
        for (Pair pair : w.pairs) {
            if (pair.high == high) {
                List<Integer> rest = down(pair.low, low);
                if (rest != null) {
                    List<Integer> all = new ArrayList<>(List.of(high));
                    all.addAll(rest);
                    best = better(best, all);
                }
            }
        }
        return best;
    }

    int why(int i, int what) {
        if (i < 0 || !in(what, 0, 1)) {
            return BAD;
        }
        return i < grounds.size() ? grounds.get(i)[what] : NOT;
    }

    int who(int act, int thing, int way) {
        if (!isAsked(0, act, thing) || !in(way, 0, 1)) {
            return BAD;
        }
        int bits = 0;
        for (int user = 0; user < 16; user++) {
            bits |= w.answer(user, act, thing, w.now) == way + 1 ? 1 << user : 0;
        }
        return bits;
    }

    int where(int user, int act) {
        if (!isAsked(user, act, 0)) {
            return BAD;
        }
        int bits = 0;
        for (int thing = 0; thing < 16; thing++) {
            bits |= w.answer(user, act, thing, w.now) == 1 ? 1 << thing : 0;
        }
        return bits;
    }

    int could(int act, int thing, int n) {
        if (!isAsked(0, act, thing) || !in(n, 0, 200)) {
            return BAD;
        }
        int bits = 0;
        for (int user = 0; user < 16; user++) {
            for (int tick = w.now; tick <= w.now + n; tick++) {
                bits |= w.answer(user, act, thing, tick) == 1 ? 1 << user : 0;
            }
        }
        return bits;
    }

    /** The first fitting choice of so many numbers out of the candidates, or null. */
    private static List<Integer> search(List<Integer> candidates, int from, List<Integer> chosen, int more,
            java.util.function.Predicate<List<Integer>> fits) {
        if (more == 0) {
            return fits.test(chosen) ? chosen : null;
        }
        for (int i = from; i < candidates.size(); i++) {
            List<Integer> next = new ArrayList<>(chosen);
            next.add(candidates.get(i));
            List<Integer> found = search(candidates, i + 1, next, more - 1, fits);
            if (found != null) {
                return found;
            }
        }
        return null;
    }

    private static int told(List<Integer> candidates, int i, java.util.function.Predicate<List<Integer>> fits) {
        for (int many = 0; many <= 3; many++) {
            List<Integer> found = search(candidates, 0, List.of(), many, fits);
            if (found != null) {
                return i == -1 ? many : i < many ? found.get(i) : NOT;
            }
        }
        return NOT;
    }

    int least(int user, int act, int thing, int i) {
        if (!isAsked(user, act, thing) || i < -1) {
            return BAD;
        }
        List<Integer> candidates = new ArrayList<>();
        for (int role = 0; role < 20; role++) {
            if (!w.assigned.get(user).contains(role)) {
                candidates.add(role);
            }
        }
        for (int rule = 0; rule < w.rules.size(); rule++) {
            if (isRule(rule) && w.rules.get(rule).kind == 1) {
                candidates.add(100 + rule);
            }
        }
        return told(candidates, i, chosen -> {
            World then = w.copy();
            boolean roles = false;
            for (int change : chosen) {
                if (change < 100) {
                    then.assigned.get(user).add(change);
                    roles = true;
                } else {
                    then.rules.get(change - 100).off = true;
                }
            }
            return then.answer(user, act, thing, then.now) == 1 && !(roles && then.holdsExcluded(user));
        });
    }

    int lose(int user, int act, int thing, int i) {
        if (!isAsked(user, act, thing) || i < -1) {
            return BAD;
        }
        List<Integer> candidates = new ArrayList<>(w.assigned.get(user));
        for (int loan = 0; loan < w.loans.size(); loan++) {
            if (w.stands(loan, w.now)) {
                candidates.add(100 + loan);
            }
        }
        for (int rule = 0; rule < w.rules.size(); rule++) {
            if (isRule(rule) && w.rules.get(rule).kind == 0) {
                candidates.add(200 + rule);
            }
        }
        return told(candidates, i, chosen -> {
            World then = w.copy();
            for (int loss : chosen) {
                if (loss < 100) {
                    then.assigned.get(user).remove(loss);
                } else if (loss < 200) {
                    then.loans.get(loss - 100).taken = true;
                } else {
                    then.rules.get(loss - 200).off = true;
                }
            }
            return then.answer(user, act, thing, then.now) != 1;
        });
    }

    int until(int user, int act, int thing) {
        if (!isAsked(user, act, thing)) {
            return BAD;
        }
        for (int n = 1; n <= 200; n++) {
            if (w.answer(user, act, thing, w.now + n) != w.answer(user, act, thing, w.now)) {
                return w.now + n;
            }
        }
        return NOT;
    }

    int changes(int user, int act, int thing, int i) {
        if (!isAsked(user, act, thing) || i < -1) {
            return BAD;
        }
        List<Integer> ticks = new ArrayList<>();
        for (int tick = w.now + 1; tick <= w.now + 200; tick++) {
            if (w.answer(user, act, thing, tick) != w.answer(user, act, thing, tick - 1)) {
                ticks.add(tick);
            }
        }
        return i == -1 ? ticks.size() : i < ticks.size() ? ticks.get(i) : NOT;
    }

    private int waysDown(int high, int low) {
        int n = high == low ? 1 : 0;
        for (Pair pair : w.pairs) {
            n += pair.high == high ? waysDown(pair.low, low) : 0;
        }
        return n;
    }

    int ways(int user, int role) {
        if (!isAsked(user, 0, 0) || !in(role, 0, 19)) {
            return BAD;
        }
        int n = 0;
        for (int own : w.assigned.get(user)) {
            n += waysDown(own, role);
        }
        for (int i = 0; i < w.loans.size(); i++) {
            n += w.loans.get(i).to == user && w.stands(i, w.now) ? waysDown(w.loans.get(i).role, role) : 0;
        }
        return n;
    }

    int idle(int user) {
        if (!isAsked(user, 0, 0)) {
            return BAD;
        }
        int bits = holds(user, 0);
        for (Rule rule : w.rules) {
            if (!rule.off && rule.kind == 0) {
                bits &= ~(1 << rule.role);
            }
        }
        return bits;
    }

    int unlike(int user, int other, int i) {
        if (!isAsked(user, 0, 0) || !isAsked(other, 0, 0) || i < -1) {
            return BAD;
        }
        List<Integer> found = new ArrayList<>();
        for (int act = 0; act < 8; act++) {
            for (int thing = 0; thing < 16; thing++) {
                if (w.answer(user, act, thing, w.now) != w.answer(other, act, thing, w.now)) {
                    found.add(16 * act + thing);
                }
            }
        }
        return i == -1 ? found.size() : i < found.size() ? found.get(i) : NOT;
    }

    int book(int i, int what) {
        if (i < 0 || !in(what, 0, 5)) {
            return BAD;
        }
        return i < w.book.size() ? w.book.get(i)[what] : NOT;
    }

    private boolean shadows(Rule b, Rule a) {
        if (a == b || a.off || b.off || a.kind != b.kind || !w.isOrSenior(a.role, b.role)) {
            return false;
        }
        for (int act = 0; act < 8; act++) {
            if ((a.acts >> act & 1) == 1 && (b.acts >> act & 1) == 0) {
                return false;
            }
        }
        boolean thing = a.thing == b.thing && b.deep >= a.deep || w.depth(a.thing, b.thing) > 0 && b.deep == 1;
        boolean time = b.from <= a.from && (b.to == -1 || a.to != -1 && b.to >= a.to);
        return thing && time && b.condition.isEmpty();
    }

    int shadowed(int rule) {
        if (!isRule(rule)) {
            return BAD;
        }
        for (int other = 0; other < w.rules.size(); other++) {
            boolean lesserOfTwo = shadows(w.rules.get(rule), w.rules.get(other)) && rule < other;
            if (shadows(w.rules.get(other), w.rules.get(rule)) && !lesserOfTwo) {
                return other;
            }
        }
        return NOT;
    }

    private boolean clashes(Rule a, Rule b) {
        if (a.off || b.off || a.kind == b.kind || (a.acts & b.acts) == 0) {
            return false;
        }
        boolean time = a.inTime(b.from) || b.inTime(a.from);
        boolean thing = a.thing == b.thing || w.depth(a.thing, b.thing) > 0 && b.deep == 1
                || w.depth(b.thing, a.thing) > 0 && a.deep == 1;
        boolean role = false;
        for (int r = 0; r < 20; r++) {
            role |= w.isOrSenior(r, a.role) && w.isOrSenior(r, b.role);
        }
        return time && thing && role;
    }

    int clash(int rule, int i) {
        if (!isRule(rule) || i < -1) {
            return BAD;
        }
        List<Integer> found = new ArrayList<>();
        for (int other = 0; other < w.rules.size(); other++) {
            if (clashes(w.rules.get(rule), w.rules.get(other))) {
                found.add(other);
            }
        }
        return i == -1 ? found.size() : i < found.size() ? found.get(i) : NOT;
    }

    int join(int a, int b, int way) {
        if (!in(a, 0, 19) || !in(b, 0, 19) || !in(way, 0, 1)) {
            return BAD;
        }
        for (int r = 0; r < 20; r++) {
            boolean is = bounds(r, a, b, way);
            for (int other = 0; other < 20; other++) {
                if (bounds(other, a, b, way)) {
                    is &= way == 0 ? w.isOrSenior(other, r) : w.isOrSenior(r, other);
                }
            }
            if (is) {
                return r;
            }
        }
        return NOT;
    }

    private boolean bounds(int r, int a, int b, int way) {
        return way == 0 ? w.isOrSenior(r, a) && w.isOrSenior(r, b) : w.isOrSenior(a, r) && w.isOrSenior(b, r);
    }

    int roles(int role, int way) {
        if (!in(role, 0, 19) || !in(way, 0, 1)) {
            return BAD;
        }
        int bits = 0;
        for (int r = 0; r < 20; r++) {
            bits |= (way == 0 ? w.isSenior(role, r) : w.isSenior(r, role)) ? 1 << r : 0;
        }
        return bits;
    }

    int level(int role) {
        if (!in(role, 0, 19)) {
            return BAD;
        }
        int level = 0;
        for (Pair pair : w.pairs) {
            level = pair.high == role ? Math.max(level, 1 + level(pair.low)) : level;
        }
        return level;
    }

    int chain(int from, int to, int i) {
        if (!in(from, 0, 19) || !in(to, 0, 19) || i < -1) {
            return BAD;
        }
        List<Integer> way = down(from, to);
        if (way == null || i >= way.size()) {
            return NOT;
        }
        return i == -1 ? way.size() - 1 : way.get(i);
    }

    int under(int thing) {
        if (!in(thing, 0, 15)) {
            return BAD;
        }
        int bits = 0;
        for (int other = 0; other < 16; other++) {
            bits |= w.depth(other, thing) > 0 ? 1 << other : 0;
        }
        return bits;
    }

    int decides(int rule, int what) {
        if (!isRule(rule) || !in(what, 0, 1)) {
            return BAD;
        }
        World then = w.copy();
        then.rules.get(rule).off = true;
        int n = 0;
        for (int user = 0; user < 16; user++) {
            for (int pair = 0; pair < 128; pair++) {
                int act = pair / 16;
                int thing = pair % 16;
                boolean counts = what == 0 ? w.decider(user, act, thing, w.now) == rule
                        : w.answer(user, act, thing, w.now) != then.answer(user, act, thing, w.now);
                n += counts ? 1 : 0;
            }
        }
        return n;
    }

    int since(int user) {
        if (!in(user, 0, 16)) {
            return BAD;
        }
        if (image == null) {
            return STATE;
        }
        int n = 0;
        for (int u = 0; u < 16; u++) {
            for (int pair = 0; pair < 128 && (user == 16 || user == u); pair++) {
                int act = pair / 16;
                int thing = pair % 16;
                n += w.answer(u, act, thing, w.now) != image.answer(u, act, thing, image.now) ? 1 : 0;
            }
        }
        return n;
    }

    int image() {
        image = w.copy();
        return w.now;
    }

    int back() {
        if (image == null) {
            return STATE;
        }
        w = image.copy();
        return w.now;
    }

    int count(int what) {
        if (!in(what, 0, 8)) {
            return BAD;
        }
        return new int[] {there(), w.loans.size(), standing(), w.pairs.size(), w.excluded.size(), tape.length(),
            w.tally[1], w.tally[2], w.tally[0]}[what];
    }
}
