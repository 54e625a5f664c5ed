/**
 * Who may do what: ROLES above ROLES, THINGS within THINGS, RULES with CONDITIONS and spans of
 * time, LOANS of ROLES, EXCLUDED pairs; every ANSWER with its GROUNDS, and an IMAGE of it all.
 */
public final class AccessLattice {
    public static final int BAD = -1, NOT = -2, FULL = -3, RING = -4, STATE = -5, EXCLUDED = -6;

    private static final int USERS = 16, THINGS = 16, ROLES = 20, ACTS = 8, ATTRIBUTES = 4;
    private static final int MOST_PAIRS = 40, MOST_BARRED = 10, MOST_LOANS = 40, MOST_RULES = 30;
    private static final int MOST_BYTES = 80, MOST_OPEN = 6, MOST_BOOKED = 30, BOOK_ROW = 6;
    private static final int MOST_PICKED = 3, MOST_OPTIONS = ROLES + MOST_LOANS + MOST_RULES;
    private static final int LAST_TICK = 9999, AHEAD = 200;
    private static final long FOR_EVER = 1L << 40;
    private static final int NOTHING = 0, ALLOWED = 1, DENIED = 2;
    private static final int GIVEN = 1000, OPERATOR = 2000, GIVENS = 11;
    private static final int NEGATE = '~';
    private static final int BY_RULE = 1, BY_ROLE = 2, BY_LOAN = 3, BY_USER = 4;
    private static final int LOAN_OPTION = 100, RULE_OPTION = 200;

    private final View live = new View();
    private final View kept = new View();
    private final State state = live.state;
    private final Tape tape = new Tape();
    private final Reader reader = new Reader();
    private final Search search = new Search();
    private final Grounds grounds = new Grounds();
    private final int[] route = new int[ROLES];
    private final int[] starts = new int[ROLES];
    private boolean imaged = false;

    public AccessLattice() {
    }

    // ---- users, things, roles

    public int attribute(int side, int of, int k, int v) {
        if (!within01(side) || !isThing(of) || !between(k, 0, ATTRIBUTES - 1) || !between(v, 0, 99)) {
            return BAD;
        }
        int[] row = side == 0 ? state.userAttributes : state.thingAttributes;
        int place = of * ATTRIBUTES + k;
        int was = row[place];
        row[place] = v;
        return was;
    }

    public int within(int thing, int other) {
        if (!isThing(thing) || !between(other, -1, THINGS - 1)) {
            return BAD;
        }
        if (other >= 0 && state.stepsUp(other, thing) >= 0) {
            return RING;
        }
        int was = state.parent[thing];
        state.parent[thing] = other;
        return was;
    }

    public int senior(int role, int other, int on) {
        if (!isRole(role) || !isRole(other) || !within01(on)) {
            return BAD;
        }
        if (on == 1) {
            return addSenior(role, other);
        }
        if (!has(state.roles.down[role], other)) {
            return NOT;
        }
        state.roles.put(role, other, false);
        return state.roles.pairs;
    }

    private int addSenior(int role, int other) {
        Roles roles = state.roles;
        if (has(roles.down[role], other)) {
            return NOT;
        }
        if (roles.pairs >= MOST_PAIRS) {
            return FULL;
        }
        if (has(roles.reach[other], role)) {
            return RING;
        }
        roles.put(role, other, true);
        if (live.someBarred()) {
            roles.put(role, other, false);
            return EXCLUDED;
        }
        return roles.pairs;
    }

    public int assign(int user, int role, int on) {
        if (!isUser(user) || !isRole(role) || !within01(on)) {
            return BAD;
        }
        int was = state.assigned[user];
        if (has(was, role) == (on == 1)) {
            return NOT;
        }
        state.assigned[user] = was ^ 1 << role;
        if (on == 1 && live.someBarred()) {
            state.assigned[user] = was;
            return EXCLUDED;
        }
        return Integer.bitCount(state.assigned[user]);
    }

    public int exclude(int a, int b, int on) {
        if (!isRole(a) || !isRole(b) || a == b || !within01(on)) {
            return BAD;
        }
        if (has(state.barred[a], b) == (on == 1)) {
            return NOT;
        }
        if (on == 1 && state.barredPairs >= MOST_BARRED) {
            return FULL;
        }
        state.toggleBarred(a, b);
        if (on == 1 && live.someBarred()) {
            state.toggleBarred(a, b);
            return EXCLUDED;
        }
        return state.barredPairs;
    }

    public int step(int n) {
        if (!between(n, 1, 500)) {
            return BAD;
        }
        if (state.now + n > LAST_TICK) {
            return FULL;
        }
        state.now += n;
        return state.now;
    }

    // ---- loans

    public int lend(int from, int to, int role, int until, int further) {
        if (!isUser(from) || !isUser(to) || from == to || !isRole(role)
                || !between(further, 0, 5) || until <= state.now) {
            return BAD;
        }
        Loans loans = state.loans;
        if (loans.count >= MOST_LOANS) {
            return FULL;
        }
        live.settle(state.now);
        int source = has(live.owned[from], role) ? -1 : live.sourceFor(from, role, further);
        if (source == NOT) {
            return STATE;
        }
        if (state.isBarred(live.held[to] | state.roles.reach[role])) {
            return EXCLUDED;
        }
        int number = loans.count;
        loans.from[number] = from;
        loans.to[number] = to;
        loans.role[number] = role;
        loans.until[number] = until;
        loans.further[number] = further;
        loans.source[number] = source;
        loans.count++;
        return number;
    }

    public int takeBack(int loan) {
        if (!isLoan(loan)) {
            return BAD;
        }
        live.settle(state.now);
        if (!live.isStanding(loan)) {
            return STATE;
        }
        int before = Long.bitCount(live.standing);
        state.loans.taken |= 1L << loan;
        live.settle(state.now);
        return before - Long.bitCount(live.standing);
    }

    public int loan(int loan, int what) {
        if (!isLoan(loan)) {
            return BAD;
        }
        Loans loans = state.loans;
        switch (what) {
            case 0:
                return loans.from[loan];
            case 1:
                return loans.to[loan];
            case 2:
                return loans.role[loan];
            case 3:
                return loans.until[loan];
            case 4:
                return loans.further[loan];
            case 5:
                return loans.source[loan];
            case 6:
                live.settle(state.now);
                return live.isStanding(loan) ? 1 : 0;
            default:
                return BAD;
        }
    }

    public int holds(int user, int way) {
        if (!isUser(user) || !between(way, 0, 2)) {
            return BAD;
        }
        if (way == 1) {
            return state.assigned[user];
        }
        live.settle(state.now);
        return way == 0 ? live.held[user] : live.owned[user];
    }

    // ---- rules

    public int feed(int letter) {
        if (!between(letter, 1, 255)) {
            return BAD;
        }
        if (tape.length >= MOST_BYTES) {
            return FULL;
        }
        tape.bytes[tape.length] = letter;
        tape.length++;
        return tape.length;
    }

    public int rule(int role, int acts, int thing, int from, int to) {
        int kind = role >= 100 ? 1 : 0;
        int deep = thing >= 100 ? 1 : 0;
        if (!isRole(role - 100 * kind) || !isThing(thing - 100 * deep)
                || !between(acts, 1, (1 << ACTS) - 1) || !between(from, 0, LAST_TICK)
                || to != -1 && to <= from) {
            return BAD;
        }
        Rules rules = state.rules;
        if (rules.count >= MOST_RULES) {
            return FULL;
        }
        int fault = tape.length == 0 ? -1 : reader.readCondition(tape);
        int size = tape.length == 0 ? 0 : reader.size;
        tape.length = 0;
        if (fault >= 0) {
            return -100 - fault;
        }
        int number = rules.count;
        rules.role[number] = role - 100 * kind;
        rules.acts[number] = acts;
        rules.thing[number] = thing - 100 * deep;
        rules.from[number] = from;
        rules.to[number] = to;
        rules.uses[number] = -1;
        rules.keepCode(number, reader.code, size);
        rules.open(number, kind == 1, deep == 1);
        return number;
    }

    public int off(int rule) {
        if (!isRule(rule)) {
            return BAD;
        }
        state.rules.there &= ~(1 << rule);
        return Integer.bitCount(state.rules.there);
    }

    public int of(int rule, int what) {
        if (!isRule(rule)) {
            return BAD;
        }
        Rules rules = state.rules;
        switch (what) {
            case 0:
                return has(rules.denies, rule) ? 1 : 0;
            case 1:
                return rules.role[rule];
            case 2:
                return rules.acts[rule];
            case 3:
                return rules.thing[rule];
            case 4:
                return has(rules.deep, rule) ? 1 : 0;
            case 5:
                return rules.from[rule];
            case 6:
                return rules.to[rule];
            case 7:
                return rules.size[rule] > 0 ? 1 : 0;
            default:
                return BAD;
        }
    }

    public int uses(int rule, int n) {
        if (!isRule(rule) || n != -1 && !between(n, 1, 99)) {
            return BAD;
        }
        state.rules.uses[rule] = n;
        return 1;
    }

    public int left(int rule) {
        if (!isRule(rule)) {
            return BAD;
        }
        int left = state.rules.uses[rule];
        return left < 0 ? NOT : left;
    }

    public int seniors() {
        int fault = reader.readPairs(tape);
        tape.length = 0;
        if (fault >= 0) {
            return -100 - fault;
        }
        int came = 0;
        for (int i = 0; i < reader.size && i + 1 < reader.code.length; i += 2) {
            if (addSenior(reader.code[i], reader.code[i + 1]) < 0) {
                return came;
            }
            came++;
        }
        return came;
    }

    // ---- asking

    public int may(int user, int act, int thing) {
        if (!isAsked(user, act, thing)) {
            return BAD;
        }
        live.settle(state.now);
        int rule = live.decider(user, act, thing, live.rulesOn(act, thing));
        int answer = state.rules.answerBy(rule);
        tellGrounds(user, rule);
        state.rules.useUp(rule);
        state.note(user, act, thing, answer, rule);
        return answer;
    }

    private void tellGrounds(int user, int rule) {
        grounds.size = 0;
        if (!between(rule, 0, state.rules.count - 1)) {
            return;
        }
        grounds.add(BY_RULE, rule);
        Roles roles = state.roles;
        int role = state.rules.role[rule];
        int own = state.assigned[user] & roles.rise[role];
        int targets = own != 0 ? own : live.lentTo(user) & roles.rise[role];
        int length = roles.fewest(roles.up, role, targets, route);
        for (int i = 0; i < length && i < route.length; i++) {
            grounds.add(BY_ROLE, route[i]);
        }
        if (own != 0) {
            grounds.add(BY_USER, user);
        } else if (between(length, 1, route.length)) {
            tellLoans(live.leastLoan(user, route[length - 1]));
        }
    }

    private void tellLoans(int first) {
        int lender = -1;
        int loan = first;
        for (int i = 0; i < MOST_LOANS && isLoan(loan); i++) {
            grounds.add(BY_LOAN, loan);
            lender = state.loans.from[loan];
            loan = state.loans.source[loan];
        }
        grounds.add(BY_USER, lender);
    }

    public int why(int i, int what) {
        if (i < 0 || !within01(what)) {
            return BAD;
        }
        if (i >= grounds.size || i >= grounds.kind.length) {
            return NOT;
        }
        return what == 0 ? grounds.kind[i] : grounds.number[i];
    }

    public int who(int act, int thing, int way) {
        if (!isAct(act) || !isThing(thing) || !within01(way)) {
            return BAD;
        }
        live.settle(state.now);
        return live.usersWith(way == 0 ? ALLOWED : DENIED, act, thing);
    }

    public int where(int user, int act) {
        if (!isUser(user) || !isAct(act)) {
            return BAD;
        }
        live.settle(state.now);
        int bits = 0;
        for (int thing = 0; thing < THINGS; thing++) {
            if (live.answer(user, act, thing) == ALLOWED) {
                bits |= 1 << thing;
            }
        }
        return bits;
    }

    public int could(int act, int thing, int n) {
        if (!isAct(act) || !isThing(thing) || !between(n, 0, AHEAD)) {
            return BAD;
        }
        live.settle(state.now);
        int bits = 0;
        for (int i = 0; i <= n; i++) {
            live.turnTo(state.now + i);
            bits |= live.usersWith(ALLOWED, act, thing);
        }
        return bits;
    }

    public int least(int user, int act, int thing, int i) {
        if (!isAsked(user, act, thing) || i < -1) {
            return BAD;
        }
        live.settle(state.now);
        if (live.answer(user, act, thing) == ALLOWED) {
            return i < 0 ? 0 : NOT;
        }
        int found = search.leastChange(live, user, act, thing);
        if (found == NOT || i >= found) {
            return NOT;
        }
        if (i < 0) {
            return found;
        }
        int option = search.chosen(i);
        return option >= RULE_OPTION ? option - RULE_OPTION + 100 : option;
    }

    public int until(int user, int act, int thing) {
        if (!isAsked(user, act, thing)) {
            return BAD;
        }
        live.settle(state.now);
        int first = live.answer(user, act, thing);
        for (int i = 1; i <= AHEAD; i++) {
            live.turnTo(state.now + i);
            if (live.answer(user, act, thing) != first) {
                return state.now + i;
            }
        }
        return NOT;
    }

    public int lose(int user, int act, int thing, int i) {
        if (!isAsked(user, act, thing) || i < -1) {
            return BAD;
        }
        live.settle(state.now);
        if (live.answer(user, act, thing) != ALLOWED) {
            return i < 0 ? 0 : NOT;
        }
        int found = search.leastLoss(live, user, act, thing);
        if (found == NOT || i >= found) {
            return NOT;
        }
        return i < 0 ? found : search.chosen(i);
    }

    public int changes(int user, int act, int thing, int i) {
        if (!isAsked(user, act, thing) || i < -1) {
            return BAD;
        }
        live.settle(state.now);
        int before = live.answer(user, act, thing);
        int found = 0;
        for (int k = 1; k <= AHEAD; k++) {
            live.turnTo(state.now + k);
            int answer = live.answer(user, act, thing);
            if (answer != before) {
                if (found == i) {
                    return state.now + k;
                }
                found++;
            }
            before = answer;
        }
        return i < 0 ? found : NOT;
    }

    public int ways(int user, int role) {
        if (!isUser(user) || !isRole(role)) {
            return BAD;
        }
        live.settle(state.now);
        for (int r = 0; r < ROLES; r++) {
            starts[r] = has(state.assigned[user], r) ? 1 : 0;
        }
        Loans loans = state.loans;
        for (int i = 0; i < loans.count; i++) {
            if (live.isStanding(i) && loans.to[i] == user) {
                starts[loans.role[i]]++;
            }
        }
        return state.roles.countWays(starts, role);
    }

    public int idle(int user) {
        if (!isUser(user)) {
            return BAD;
        }
        live.settle(state.now);
        Rules rules = state.rules;
        int named = 0;
        for (int r = 0; r < rules.count; r++) {
            if (has(rules.there & ~rules.denies, r)) {
                named |= 1 << rules.role[r];
            }
        }
        return live.held[user] & ~named;
    }

    public int unlike(int user, int other, int i) {
        if (!isUser(user) || !isUser(other) || i < -1) {
            return BAD;
        }
        live.settle(state.now);
        int found = 0;
        for (int pair = 0; pair < ACTS * THINGS; pair++) {
            int act = pair / THINGS;
            int thing = pair % THINGS;
            if (live.answer(user, act, thing) != live.answer(other, act, thing)) {
                if (found == i) {
                    return pair;
                }
                found++;
            }
        }
        return i < 0 ? found : NOT;
    }

    public int book(int i, int what) {
        if (i < 0 || !between(what, 0, BOOK_ROW - 1)) {
            return BAD;
        }
        if (i >= state.booked || i >= MOST_BOOKED) {
            return NOT;
        }
        return state.rows[i * BOOK_ROW + what];
    }

    // ---- rules and roles by themselves

    public int shadowed(int rule) {
        if (!isRule(rule)) {
            return BAD;
        }
        for (int r = 0; r < state.rules.count; r++) {
            if (r != rule && isRule(r) && covers(r, rule) && !(rule < r && covers(rule, r))) {
                return r;
            }
        }
        return NOT;
    }

    /** Whether all that the RULE tells is told by the other one, too, at any time and for anybody. */
    private boolean covers(int other, int rule) {
        Rules rules = state.rules;
        int steps = state.stepsUp(rules.thing[rule], rules.thing[other]);
        boolean things = steps == 0 && (has(rules.deep, other) || !has(rules.deep, rule))
                || steps > 0 && has(rules.deep, other);
        return has(rules.denies, other) == has(rules.denies, rule)
                && has(state.roles.reach[rules.role[rule]], rules.role[other])
                && (rules.acts[rule] & ~rules.acts[other]) == 0
                && things
                && rules.from[other] <= rules.from[rule]
                && rules.end(other) >= rules.end(rule)
                && rules.size[other] == 0;
    }

    public int clash(int rule, int i) {
        if (!isRule(rule) || i < -1) {
            return BAD;
        }
        int found = 0;
        for (int r = 0; r < state.rules.count; r++) {
            if (isRule(r) && clashWith(rule, r)) {
                if (found == i) {
                    return r;
                }
                found++;
            }
        }
        return i < 0 ? found : NOT;
    }

    private boolean clashWith(int rule, int other) {
        Rules rules = state.rules;
        int[] rise = state.roles.rise;
        return has(rules.denies, rule) != has(rules.denies, other)
                && (rules.acts[rule] & rules.acts[other]) != 0
                && Math.max(rules.from[rule], rules.from[other])
                        < Math.min(rules.end(rule), rules.end(other))
                && (reaches(rule, rules.thing[other]) || reaches(other, rules.thing[rule]))
                && (rise[rules.role[rule]] & rise[rules.role[other]]) != 0;
    }

    private boolean reaches(int rule, int thing) {
        int steps = state.stepsUp(thing, state.rules.thing[rule]);
        return steps == 0 || steps > 0 && has(state.rules.deep, rule);
    }

    public int join(int a, int b, int way) {
        if (!isRole(a) || !isRole(b) || !within01(way)) {
            return BAD;
        }
        int[] closure = way == 0 ? state.roles.rise : state.roles.reach;
        int shared = closure[a] & closure[b];
        for (int r = 0; r < ROLES; r++) {
            if (has(shared, r) && (shared & ~closure[r]) == 0) {
                return r;
            }
        }
        return NOT;
    }

    public int roles(int role, int way) {
        if (!isRole(role) || !within01(way)) {
            return BAD;
        }
        int[] closure = way == 0 ? state.roles.reach : state.roles.rise;
        return closure[role] & ~(1 << role);
    }

    public int level(int role) {
        return isRole(role) ? state.roles.longestDown(role) : BAD;
    }

    public int chain(int from, int to, int i) {
        if (!isRole(from) || !isRole(to) || i < -1) {
            return BAD;
        }
        int length = state.roles.fewest(state.roles.down, from, 1 << to, route);
        if (length == 0 || i >= length || i >= route.length) {
            return NOT;
        }
        return i < 0 ? length - 1 : route[i];
    }

    public int under(int thing) {
        if (!isThing(thing)) {
            return BAD;
        }
        int bits = 0;
        for (int other = 0; other < THINGS; other++) {
            if (state.stepsUp(other, thing) > 0) {
                bits |= 1 << other;
            }
        }
        return bits;
    }

    public int decides(int rule, int what) {
        if (!isRule(rule) || !within01(what)) {
            return BAD;
        }
        live.settle(state.now);
        int found = 0;
        for (int pair = 0; pair < ACTS * THINGS; pair++) {
            int act = pair / THINGS;
            int thing = pair % THINGS;
            int mask = live.rulesOn(act, thing);
            // An ANSWER by another RULE stays what it is without this one.
            for (int user = 0; user < USERS && has(mask, rule); user++) {
                if (live.decider(user, act, thing, mask) == rule
                        && (what == 0 || wouldTurn(rule, user, act, thing, mask))) {
                    found++;
                }
            }
        }
        return found;
    }

    private boolean wouldTurn(int rule, int user, int act, int thing, int mask) {
        int next = live.decider(user, act, thing, mask & ~(1 << rule));
        return state.rules.answerBy(next) != state.rules.answerBy(rule);
    }

    public int since(int user) {
        if (!between(user, 0, USERS)) {
            return BAD;
        }
        if (!imaged) {
            return STATE;
        }
        live.settle(state.now);
        kept.settle(kept.state.now);
        int first = user == USERS ? 0 : user;
        int last = user == USERS ? USERS - 1 : user;
        int found = 0;
        for (int pair = 0; pair < ACTS * THINGS; pair++) {
            found += differing(pair / THINGS, pair % THINGS, first, last);
        }
        return found;
    }

    private int differing(int act, int thing, int first, int last) {
        int mask = live.rulesOn(act, thing);
        int keptMask = kept.rulesOn(act, thing);
        int found = 0;
        for (int user = first; user <= last; user++) {
            int answer = state.rules.answerBy(live.decider(user, act, thing, mask));
            int was = kept.state.rules.answerBy(kept.decider(user, act, thing, keptMask));
            if (answer != was) {
                found++;
            }
        }
        return found;
    }

    // ---- the image, numbers

    public int image() {
        kept.state.copyFrom(state);
        imaged = true;
        return state.now;
    }

    public int back() {
        if (!imaged) {
            return STATE;
        }
        state.copyFrom(kept.state);
        return state.now;
    }

    public int count(int what) {
        switch (what) {
            case 0:
                return Integer.bitCount(state.rules.there);
            case 1:
                return state.loans.count;
            case 2:
                live.settle(state.now);
                return Long.bitCount(live.standing);
            case 3:
                return state.roles.pairs;
            case 4:
                return state.barredPairs;
            case 5:
                return tape.length;
            case 6:
                return state.tally[ALLOWED];
            case 7:
                return state.tally[DENIED];
            case 8:
                return state.tally[NOTHING];
            default:
                return BAD;
        }
    }

    // ---- what is a number of what

    private static boolean between(int value, int least, int most) {
        return value >= least && value <= most;
    }

    private static boolean within01(int value) {
        return value == 0 || value == 1;
    }

    private static boolean isUser(int value) {
        return between(value, 0, USERS - 1);
    }

    private static boolean isThing(int value) {
        return between(value, 0, THINGS - 1);
    }

    private static boolean isRole(int value) {
        return between(value, 0, ROLES - 1);
    }

    private static boolean isAct(int value) {
        return between(value, 0, ACTS - 1);
    }

    private static boolean isAsked(int user, int act, int thing) {
        return isUser(user) && isAct(act) && isThing(thing);
    }

    private boolean isLoan(int value) {
        return between(value, 0, state.loans.count - 1);
    }

    private boolean isRule(int value) {
        return between(value, 0, state.rules.count - 1) && has(state.rules.there, value);
    }

    private static boolean has(int bits, int number) {
        return (bits >> number & 1) != 0;
    }

    private static boolean hasLong(long bits, int number) {
        return (bits >> number & 1L) != 0L;
    }

    /** ROLES above ROLES: the pairs as told, and what follows from them. */
    private static final class Roles {
        final int[] down = new int[ROLES];
        final int[] up = new int[ROLES];
        /** Itself and all that it is SENIOR to. */
        final int[] reach = new int[ROLES];
        /** Itself and all that are SENIOR to it. */
        final int[] rise = new int[ROLES];
        final int[] distance = new int[ROLES];
        final int[] walks = new int[ROLES];
        final int[] longer = new int[ROLES];
        int pairs = 0;

        Roles() {
            close();
        }

        void put(int role, int other, boolean on) {
            down[role] = on ? down[role] | 1 << other : down[role] & ~(1 << other);
            up[other] = on ? up[other] | 1 << role : up[other] & ~(1 << role);
            pairs += on ? 1 : -1;
            close();
        }

        private void close() {
            for (int i = 0; i < ROLES; i++) {
                reach[i] = down[i] | 1 << i;
                rise[i] = up[i] | 1 << i;
            }
            for (int k = 0; k < ROLES; k++) {
                for (int i = 0; i < ROLES; i++) {
                    if (has(reach[i], k)) {
                        reach[i] |= reach[k];
                    }
                    if (has(rise[i], k)) {
                        rise[i] |= rise[k];
                    }
                }
            }
        }

        /** These ROLES, and all that one of them is SENIOR to. */
        int spread(int bits) {
            int all = 0;
            for (int i = 0; i < ROLES; i++) {
                if (has(bits, i)) {
                    all |= reach[i];
                }
            }
            return all;
        }

        /**
         * The shortest way by these steps from a ROLE to one of the targets, of like ones that of
         * the least numbers: how many ROLES are on it, 0 if there is none.
         */
        int fewest(int[] next, int from, int targets, int[] out) {
            int layer = targets;
            int seen = targets;
            for (int steps = 0; steps < ROLES && layer != 0; steps++) {
                int farther = 0;
                for (int i = 0; i < ROLES; i++) {
                    if (has(layer, i)) {
                        distance[i] = steps;
                    } else if (!has(seen, i) && (next[i] & layer) != 0) {
                        farther |= 1 << i;
                    }
                }
                seen |= farther;
                layer = farther;
            }
            return has(seen, from) ? walk(next, from, seen, out) : 0;
        }

        private int walk(int[] next, int from, int seen, int[] out) {
            int at = from;
            for (int i = 0; i < ROLES && i < out.length && at >= 0; i++) {
                out[i] = at;
                if (distance[at] == 0) {
                    return i + 1;
                }
                at = nearest(next[at] & seen, distance[at] - 1);
            }
            return 0;
        }

        private int nearest(int choice, int steps) {
            for (int i = 0; i < ROLES; i++) {
                if (has(choice, i) && distance[i] == steps) {
                    return i;
                }
            }
            return -1;
        }

        /** How many ways lead down to the ROLE, each start as often as it is told. */
        int countWays(int[] often, int role) {
            for (int i = 0; i < ROLES; i++) {
                walks[i] = i == role ? 1 : 0;
            }
            int all = 0;
            for (int length = 0; length < ROLES; length++) {
                for (int i = 0; i < ROLES && i < often.length; i++) {
                    all += often[i] * walks[i];
                    longer[i] = 0;
                    for (int k = 0; k < ROLES; k++) {
                        longer[i] += has(down[i], k) ? walks[k] : 0;
                    }
                }
                System.arraycopy(longer, 0, walks, 0, ROLES);
            }
            return all;
        }

        int longestDown(int role) {
            int layer = down[role];
            int steps = 0;
            for (int i = 0; i < ROLES && layer != 0; i++) {
                int lower = 0;
                for (int k = 0; k < ROLES; k++) {
                    lower |= has(layer, k) ? down[k] : 0;
                }
                layer = lower;
                steps++;
            }
            return steps;
        }

        void copyFrom(Roles other) {
            System.arraycopy(other.down, 0, down, 0, ROLES);
            System.arraycopy(other.up, 0, up, 0, ROLES);
            System.arraycopy(other.reach, 0, reach, 0, ROLES);
            System.arraycopy(other.rise, 0, rise, 0, ROLES);
            pairs = other.pairs;
        }
    }

    /** LOANS in the order of their numbers; a SOURCE always has a lesser number. */
    private static final class Loans {
        final int[] from = new int[MOST_LOANS];
        final int[] to = new int[MOST_LOANS];
        final int[] role = new int[MOST_LOANS];
        final int[] until = new int[MOST_LOANS];
        final int[] further = new int[MOST_LOANS];
        final int[] source = new int[MOST_LOANS];
        long taken = 0L;
        int count = 0;

        void copyFrom(Loans other) {
            System.arraycopy(other.from, 0, from, 0, MOST_LOANS);
            System.arraycopy(other.to, 0, to, 0, MOST_LOANS);
            System.arraycopy(other.role, 0, role, 0, MOST_LOANS);
            System.arraycopy(other.until, 0, until, 0, MOST_LOANS);
            System.arraycopy(other.further, 0, further, 0, MOST_LOANS);
            System.arraycopy(other.source, 0, source, 0, MOST_LOANS);
            taken = other.taken;
            count = other.count;
        }
    }

    /** RULES in the order of their numbers, their CONDITIONS as codes behind their operands. */
    private static final class Rules {
        final int[] role = new int[MOST_RULES];
        final int[] acts = new int[MOST_RULES];
        final int[] thing = new int[MOST_RULES];
        final int[] from = new int[MOST_RULES];
        final int[] to = new int[MOST_RULES];
        final int[] uses = new int[MOST_RULES];
        final int[] size = new int[MOST_RULES];
        final int[] codes = new int[MOST_RULES * MOST_BYTES];
        int there = 0;
        int denies = 0;
        int deep = 0;
        int count = 0;

        void keepCode(int rule, int[] code, int length) {
            int fits = Math.min(length, Math.min(code.length, MOST_BYTES));
            System.arraycopy(code, 0, codes, rule * MOST_BYTES, fits);
            size[rule] = fits;
        }

        /** The next number is there from now on. */
        void open(int rule, boolean isDeny, boolean isDeep) {
            int bit = 1 << rule;
            there |= bit;
            denies = isDeny ? denies | bit : denies & ~bit;
            deep = isDeep ? deep | bit : deep & ~bit;
            count = rule + 1;
        }

        /** A long, as for ever is later than any int that TO can be. */
        long end(int rule) {
            return to[rule] == -1 ? FOR_EVER : to[rule];
        }

        /** The RULES that hold at a TICK and have USES left. */
        int timely(int tick) {
            int bits = 0;
            for (int r = 0; r < count; r++) {
                if (has(there, r) && from[r] <= tick && tick < end(r) && uses[r] != 0) {
                    bits |= 1 << r;
                }
            }
            return bits;
        }

        /** Those of the RULES whose ROLE is one of the ROLES. */
        int ofRoles(int rules, int bits) {
            int found = 0;
            for (int r = 0; r < count; r++) {
                if (has(rules, r) && has(bits, role[r])) {
                    found |= 1 << r;
                }
            }
            return found;
        }

        /** By which of the RULES that APPLY the ANSWER is; -1: there is none. */
        int first(int applying) {
            int choice = (applying & denies) != 0 ? applying & denies : applying;
            for (int r = 0; r < count; r++) {
                if (has(choice, r)) {
                    return r;
                }
            }
            return -1;
        }

        int answerBy(int rule) {
            if (rule < 0) {
                return NOTHING;
            }
            return has(denies, rule) ? DENIED : ALLOWED;
        }

        void useUp(int rule) {
            if (between(rule, 0, count - 1) && uses[rule] > 0) {
                uses[rule]--;
            }
        }

        void copyFrom(Rules other) {
            System.arraycopy(other.role, 0, role, 0, MOST_RULES);
            System.arraycopy(other.acts, 0, acts, 0, MOST_RULES);
            System.arraycopy(other.thing, 0, thing, 0, MOST_RULES);
            System.arraycopy(other.from, 0, from, 0, MOST_RULES);
            System.arraycopy(other.to, 0, to, 0, MOST_RULES);
            System.arraycopy(other.uses, 0, uses, 0, MOST_RULES);
            System.arraycopy(other.size, 0, size, 0, MOST_RULES);
            System.arraycopy(other.codes, 0, codes, 0, codes.length);
            there = other.there;
            denies = other.denies;
            deep = other.deep;
            count = other.count;
        }
    }

    /** All that an IMAGE keeps. */
    private static final class State {
        final Roles roles = new Roles();
        final Loans loans = new Loans();
        final Rules rules = new Rules();
        final int[] userAttributes = new int[USERS * ATTRIBUTES];
        final int[] thingAttributes = new int[THINGS * ATTRIBUTES];
        final int[] parent = new int[THINGS];
        final int[] assigned = new int[USERS];
        final int[] barred = new int[ROLES];
        final int[] rows = new int[MOST_BOOKED * BOOK_ROW];
        final int[] tally = new int[3];
        int barredPairs = 0;
        int booked = 0;
        int now = 0;

        State() {
            for (int i = 0; i < THINGS; i++) {
                parent[i] = -1;
            }
        }

        /** How many THINGS one lies below the other one; 0: it is that; -1: it does not. */
        int stepsUp(int thing, int other) {
            int at = thing;
            for (int steps = 0; steps < THINGS && at >= 0; steps++) {
                if (at == other) {
                    return steps;
                }
                at = parent[at];
            }
            return -1;
        }

        void toggleBarred(int a, int b) {
            barredPairs += has(barred[a], b) ? -1 : 1;
            barred[a] ^= 1 << b;
            barred[b] ^= 1 << a;
        }

        /** Whether an EXCLUDED pair is among these ROLES. */
        boolean isBarred(int bits) {
            for (int i = 0; i < ROLES; i++) {
                if (has(bits, i) && (bits & barred[i]) != 0) {
                    return true;
                }
            }
            return false;
        }

        void note(int user, int act, int thing, int answer, int rule) {
            if (booked >= MOST_BOOKED) {
                System.arraycopy(rows, BOOK_ROW, rows, 0, rows.length - BOOK_ROW);
                booked = MOST_BOOKED - 1;
            }
            int at = booked * BOOK_ROW;
            rows[at] = now;
            rows[at + 1] = user;
            rows[at + 2] = act;
            rows[at + 3] = thing;
            rows[at + 4] = answer;
            rows[at + 5] = rule;
            booked++;
            tally[answer]++;
        }

        void copyFrom(State other) {
            roles.copyFrom(other.roles);
            loans.copyFrom(other.loans);
            rules.copyFrom(other.rules);
            System.arraycopy(other.userAttributes, 0, userAttributes, 0, userAttributes.length);
            System.arraycopy(other.thingAttributes, 0, thingAttributes, 0, thingAttributes.length);
            System.arraycopy(other.parent, 0, parent, 0, THINGS);
            System.arraycopy(other.assigned, 0, assigned, 0, USERS);
            System.arraycopy(other.barred, 0, barred, 0, ROLES);
            System.arraycopy(other.rows, 0, rows, 0, rows.length);
            System.arraycopy(other.tally, 0, tally, 0, tally.length);
            barredPairs = other.barredPairs;
            booked = other.booked;
            now = other.now;
        }
    }

    /** A state, and what follows from it at a TICK: settle it anew ahead of asking it. */
    private static final class View {
        final State state = new State();
        /** ROLES that each USER HOLDS by what it is ASSIGNED. */
        final int[] owned = new int[USERS];
        final int[] held = new int[USERS];
        final int[] givens = new int[GIVENS];
        final int[] stack = new int[MOST_BYTES];
        long standing = 0L;
        int timely = 0;
        int tick = 0;

        void settle(int at) {
            for (int user = 0; user < USERS; user++) {
                owned[user] = state.roles.spread(state.assigned[user]);
            }
            turnTo(at);
        }

        /** What is ASSIGNED is at each TICK the same, if nothing else is told. */
        void turnTo(int at) {
            tick = at;
            timely = state.rules.timely(at);
            settleLoans(0L);
        }

        /** The USER's ASSIGNED ROLES are others (each bit the other way), and LOANS are lost. */
        void suppose(int user, int turned, long lost) {
            owned[user] = state.roles.spread(state.assigned[user] ^ turned);
            settleLoans(lost);
        }

        private void settleLoans(long lost) {
            System.arraycopy(owned, 0, held, 0, USERS);
            standing = 0L;
            Loans loans = state.loans;
            long out = lost | loans.taken;
            for (int i = 0; i < loans.count; i++) {
                int source = loans.source[i];
                boolean backed = source < 0
                        ? has(owned[loans.from[i]], loans.role[i]) : hasLong(standing, source);
                if (backed && tick < loans.until[i] && !hasLong(out, i)) {
                    standing |= 1L << i;
                    held[loans.to[i]] |= state.roles.reach[loans.role[i]];
                }
            }
        }

        boolean isStanding(int loan) {
            return hasLong(standing, loan);
        }

        /** Whether any USER HOLDS an EXCLUDED pair now. */
        boolean someBarred() {
            settle(state.now);
            for (int user = 0; user < USERS; user++) {
                if (state.isBarred(held[user])) {
                    return true;
                }
            }
            return false;
        }

        int sourceFor(int lender, int role, int further) {
            Loans loans = state.loans;
            for (int i = 0; i < loans.count; i++) {
                if (isStanding(i) && loans.to[i] == lender && loans.further[i] > further
                        && has(state.roles.reach[loans.role[i]], role)) {
                    return i;
                }
            }
            return NOT;
        }

        /** ROLES of LOANS to the USER that STAND. */
        int lentTo(int user) {
            int bits = 0;
            for (int i = 0; i < state.loans.count; i++) {
                if (isStanding(i) && state.loans.to[i] == user) {
                    bits |= 1 << state.loans.role[i];
                }
            }
            return bits;
        }

        int leastLoan(int user, int role) {
            for (int i = 0; i < state.loans.count; i++) {
                if (isStanding(i) && state.loans.to[i] == user && state.loans.role[i] == role) {
                    return i;
                }
            }
            return -1;
        }

        /** LOANS that STAND and by which, or by what they are SOURCE of, the USER HOLDS ROLES. */
        long loansBehind(int user) {
            long behind = 0L;
            for (int i = state.loans.count - 1; i >= 0; i--) {
                boolean leads = state.loans.to[i] == user || hasLong(behind, i);
                if (isStanding(i) && leads) {
                    behind |= 1L << i;
                    int source = state.loans.source[i];
                    behind |= source >= 0 ? 1L << source : 0L;
                }
            }
            return behind;
        }

        /** The RULES that APPLY to an ACT on a THING, but for ROLES and CONDITIONS. */
        int rulesOn(int act, int thing) {
            Rules rules = state.rules;
            int bits = 0;
            for (int r = 0; r < rules.count; r++) {
                if (has(timely, r) && has(rules.acts[r], act)) {
                    int steps = state.stepsUp(thing, rules.thing[r]);
                    if (steps == 0 || steps > 0 && has(rules.deep, r)) {
                        bits |= 1 << r;
                    }
                }
            }
            return bits;
        }

        /** Those of the RULES whose CONDITION holds. */
        int met(int user, int act, int thing, int rules) {
            int bits = 0;
            for (int r = 0; r < state.rules.count; r++) {
                if (has(rules, r) && meets(r, user, act, thing)) {
                    bits |= 1 << r;
                }
            }
            return bits;
        }

        /** By which of the RULES the ANSWER is; -1: it is NOTHING. */
        int decider(int user, int act, int thing, int rules) {
            int ofUser = rules == 0 ? 0 : state.rules.ofRoles(rules, held[user]);
            return ofUser == 0 ? -1 : state.rules.first(met(user, act, thing, ofUser));
        }

        int answer(int user, int act, int thing) {
            return state.rules.answerBy(decider(user, act, thing, rulesOn(act, thing)));
        }

        /** USERS (bits) with this ANSWER. */
        int usersWith(int answer, int act, int thing) {
            int rules = rulesOn(act, thing);
            int bits = 0;
            for (int user = 0; user < USERS; user++) {
                if (state.rules.answerBy(decider(user, act, thing, rules)) == answer) {
                    bits |= 1 << user;
                }
            }
            return bits;
        }

        private boolean meets(int rule, int user, int act, int thing) {
            Rules rules = state.rules;
            int size = Math.min(rules.size[rule], MOST_BYTES);
            if (size == 0) {
                return true;
            }
            System.arraycopy(state.userAttributes, user * ATTRIBUTES, givens, 0, ATTRIBUTES);
            System.arraycopy(state.thingAttributes, thing * ATTRIBUTES, givens, ATTRIBUTES, ATTRIBUTES);
            givens[GIVENS - 3] = tick;
            givens[GIVENS - 2] = act;
            givens[GIVENS - 1] = state.stepsUp(thing, rules.thing[rule]);
            int top = 0;
            for (int i = 0; i < size; i++) {
                top = work(rules.codes[rule * MOST_BYTES + i], top);
            }
            return top == 1 && stack[0] != 0;
        }

        /** One code more; how high the stack is then. */
        private int work(int code, int top) {
            if (code < OPERATOR) {
                if (top < stack.length) {
                    boolean given = between(code, GIVEN, GIVEN + GIVENS - 1);
                    stack[top] = given ? givens[code - GIVEN] : code;
                }
                return Math.min(top + 1, stack.length);
            }
            int operator = code - OPERATOR;
            if (operator == '!' || operator == NEGATE) {
                if (between(top, 1, stack.length)) {
                    int value = stack[top - 1];
                    stack[top - 1] = operator == NEGATE ? -value : value == 0 ? 1 : 0;
                }
                return top;
            }
            if (!between(top, 2, stack.length)) {
                return top;
            }
            stack[top - 2] = combined(operator, stack[top - 2], stack[top - 1]);
            return top - 1;
        }

        private static int combined(int operator, int a, int b) {
            switch (operator) {
                case '+':
                    return a + b;
                case '-':
                    return a - b;
                case '*':
                    return a * b;
                case '<':
                    return a < b ? 1 : 0;
                case '>':
                    return a > b ? 1 : 0;
                case '=':
                    return a == b ? 1 : 0;
                case '&':
                    return a != 0 && b != 0 ? 1 : 0;
                default:
                    return a != 0 || b != 0 ? 1 : 0;
            }
        }
    }

    /** THE TAPE. */
    private static final class Tape {
        final int[] bytes = new int[MOST_BYTES];
        int length = 0;

        /** The byte at a place; 0, which no byte is, outside of the text. */
        int at(int place) {
            return place >= 0 && place < length && place < bytes.length ? bytes[place] : 0;
        }

        boolean isFigure(int place) {
            return between(at(place), '0', '9');
        }
    }

    /** Reads the TEXTS on THE TAPE; what it has read stands in code. */
    private static final class Reader {
        final int[] code = new int[MOST_BYTES];
        final int[] waiting = new int[MOST_BYTES];
        int size = 0;
        int top = 0;
        int open = 0;
        int place = 0;
        int fault = -1;
        boolean due = true;

        private void start() {
            size = 0;
            top = 0;
            open = 0;
            place = 0;
            fault = -1;
            due = true;
        }

        /** A CONDITION: its FAULT, -1 if there is none. */
        int readCondition(Tape tape) {
            start();
            for (int i = 0; i < MOST_BYTES && fault < 0 && place < tape.length; i++) {
                if (due) {
                    readOperand(tape);
                } else {
                    readOperator(tape.at(place));
                }
            }
            if (fault < 0 && (due || open > 0)) {
                fault = tape.length;
            }
            popDownTo(0);
            return fault;
        }

        private void readOperand(Tape tape) {
            int letter = tape.at(place);
            switch (letter) {
                case '!':
                case '-':
                case '(':
                    openWith(letter == '-' ? NEGATE : letter);
                    break;
                case 'u':
                case 't':
                    readAttribute(letter == 'u' ? GIVEN : GIVEN + ATTRIBUTES, tape.at(place + 1));
                    break;
                case 'n':
                    takeOperand(GIVEN + GIVENS - 3, 1);
                    break;
                case 'a':
                    takeOperand(GIVEN + GIVENS - 2, 1);
                    break;
                case 'd':
                    takeOperand(GIVEN + GIVENS - 1, 1);
                    break;
                default:
                    readNumber(tape);
                    break;
            }
        }

        private void openWith(int mark) {
            if (open >= MOST_OPEN) {
                fault = place;
                return;
            }
            push(mark);
            open++;
            place++;
        }

        private void readAttribute(int first, int figure) {
            if (between(figure, '0', '0' + ATTRIBUTES - 1)) {
                takeOperand(first + figure - '0', 2);
            } else {
                fault = place + 1;
            }
        }

        private void readNumber(Tape tape) {
            int value = 0;
            int figures = 0;
            for (int i = 0; i < 3 && tape.isFigure(place + i); i++) {
                value = value * 10 + tape.at(place + i) - '0';
                figures++;
            }
            if (figures == 0) {
                fault = place;
            } else {
                takeOperand(value, figures);
            }
        }

        private void takeOperand(int value, int bytes) {
            emit(value);
            place += bytes;
            endOperand();
        }

        /** A U has ended: so have those ! and - that stood right ahead of it. */
        private void endOperand() {
            due = false;
            for (int i = 0; i < MOST_OPEN && (topMark() == '!' || topMark() == NEGATE); i++) {
                emit(OPERATOR + topMark());
                top--;
                open--;
            }
        }

        private void readOperator(int letter) {
            int rank = rankOf(letter);
            if (letter == ')' && open > 0) {
                popDownTo(1);
                top = Math.max(top - 1, 0);
                open--;
                place++;
                endOperand();
                return;
            }
            popDownTo(rank == 3 ? 4 : rank);
            if (rank == 0 || rank == 3 && rankOf(topMark()) == 3) {
                fault = place;
                return;
            }
            push(letter);
            place++;
            due = true;
        }

        /** What waits and binds as much as that, or more, goes to the code; an open ( stops it. */
        private void popDownTo(int rank) {
            for (int i = 0; i < MOST_BYTES && rankOf(topMark()) >= Math.max(rank, 1); i++) {
                emit(OPERATOR + topMark());
                top--;
            }
        }

        private static int rankOf(int mark) {
            switch (mark) {
                case '|':
                    return 1;
                case '&':
                    return 2;
                case '<':
                case '=':
                case '>':
                    return 3;
                case '+':
                case '-':
                    return 4;
                case '*':
                    return 5;
                default:
                    return 0;
            }
        }

        private int topMark() {
            return top > 0 && top <= waiting.length ? waiting[top - 1] : 0;
        }

        private void push(int mark) {
            if (top >= 0 && top < waiting.length) {
                waiting[top] = mark;
                top++;
            }
        }

        private void emit(int value) {
            if (size >= 0 && size < code.length) {
                code[size] = value;
                size++;
            }
        }

        /** A TEXT of pairs, the ROLES as they come in code: its FAULT, -1 if there is none. */
        int readPairs(Tape tape) {
            start();
            for (int i = 0; i < MOST_BYTES && fault < 0 && (i == 0 || place < tape.length); i++) {
                if (i > 0) {
                    readMark(tape, ',');
                }
                readRole(tape);
                readMark(tape, '>');
                readRole(tape);
            }
            return fault;
        }

        private void readMark(Tape tape, int mark) {
            if (fault >= 0) {
                return;
            }
            if (tape.at(place) == mark) {
                place++;
            } else {
                fault = place;
            }
        }

        private void readRole(Tape tape) {
            if (fault >= 0) {
                return;
            }
            int value = tape.at(place) - '0';
            int figures = 1;
            if (tape.isFigure(place + 1)) {
                value = value * 10 + tape.at(place + 1) - '0';
                figures = 2;
            }
            if (!tape.isFigure(place) || !isRole(value)) {
                fault = place;
                return;
            }
            emit(value);
            place += figures;
        }
    }

    /** What why() tells. */
    private static final class Grounds {
        final int[] kind = new int[ROLES + MOST_LOANS + 2];
        final int[] number = new int[ROLES + MOST_LOANS + 2];
        int size = 0;

        void add(int what, int which) {
            if (size >= 0 && size < kind.length) {
                kind[size] = what;
                number[size] = which;
                size++;
            }
        }
    }

    /**
     * The fewest of the options by which an ANSWER turns, of like many the first in order. Of the
     * fewest each one is needed, so what can't matter is no option.
     */
    private static final class Search {
        final int[] options = new int[MOST_OPTIONS];
        final int[] picked = new int[MOST_PICKED];
        int size = 0;
        int turned = 0;
        long lost = 0L;
        int gone = 0;

        int leastChange(View view, int user, int act, int thing) {
            Rules rules = view.state.rules;
            int met = view.met(user, act, thing, view.rulesOn(act, thing));
            size = 0;
            if ((met & ~rules.denies) == 0) {
                return NOT;
            }
            addOptions(0, ROLES, ~view.state.assigned[user]);
            addOptions(RULE_OPTION, MOST_RULES, met & rules.denies);
            return fewest(view, user, met, true);
        }

        int leastLoss(View view, int user, int act, int thing) {
            Rules rules = view.state.rules;
            int met = view.met(user, act, thing, view.rulesOn(act, thing));
            int applying = rules.ofRoles(met, view.held[user]);
            size = 0;
            addOptions(0, ROLES, view.state.assigned[user]);
            addOptions(LOAN_OPTION, MOST_LOANS, view.loansBehind(user));
            addOptions(RULE_OPTION, MOST_RULES, applying & ~rules.denies);
            return fewest(view, user, met, false);
        }

        private void addOptions(int first, int most, long bits) {
            for (int i = 0; i < most && size < options.length; i++) {
                if (hasLong(bits, i)) {
                    options[size] = first + i;
                    size++;
                }
            }
        }

        int chosen(int i) {
            if (i < 0 || i >= picked.length || !between(picked[i], 0, size - 1)) {
                return NOT;
            }
            return options[picked[i]];
        }

        private int fewest(View view, int user, int met, boolean gain) {
            turned = 0;
            lost = 0L;
            for (int many = 1; many <= MOST_PICKED; many++) {
                boolean more = many <= size;
                for (int i = 0; i < many; i++) {
                    picked[i] = i;
                }
                for (int i = 0; i < 1000000 && more; i++) {
                    if (suits(view, user, met, many, gain)) {
                        return many;
                    }
                    more = pickNext(many);
                }
            }
            return NOT;
        }

        private boolean pickNext(int many) {
            for (int i = many - 1; i >= 0; i--) {
                if (picked[i] < size - many + i) {
                    picked[i]++;
                    for (int k = i + 1; k < many; k++) {
                        picked[k] = picked[k - 1] + 1;
                    }
                    return true;
                }
            }
            return false;
        }

        private boolean suits(View view, int user, int met, int many, boolean gain) {
            Rules rules = view.state.rules;
            int turnedBefore = turned;
            long lostBefore = lost;
            sumUp(many);
            // RULES come last in order, so that most of the choices leave what is HELD as it was.
            if (turned != turnedBefore || lost != lostBefore) {
                view.suppose(user, turned, lost);
            }
            int held = view.held[user];
            int rule = rules.first(rules.ofRoles(met & ~gone, held));
            boolean allowed = rules.answerBy(rule) == ALLOWED;
            return gain ? allowed && !view.state.isBarred(held) : !allowed;
        }

        private void sumUp(int many) {
            turned = 0;
            lost = 0L;
            gone = 0;
            for (int i = 0; i < many; i++) {
                int option = chosen(i);
                if (option >= RULE_OPTION) {
                    gone |= 1 << option - RULE_OPTION;
                } else if (option >= LOAN_OPTION) {
                    lost |= 1L << option - LOAN_OPTION;
                } else if (option >= 0) {
                    turned |= 1 << option;
                }
            }
        }
    }
}
