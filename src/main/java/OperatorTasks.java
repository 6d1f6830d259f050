/** Tasks of operators that change variables; ../shared/DOC.md says what each call answers. */
public final class OperatorTasks {
    public static final int BAD_ARG = -1;
    public static final int FULL = -2;
    public static final int NONE = -3;

    private static final int MAX_VARIABLES = 5;
    private static final int MAX_VALUES = 4;
    private static final int MAX_OPERATORS = 10;
    // needs and effects: MAX_OPERATORS rows of MAX_VARIABLES values
    private static final int TABLE = 50;
    // a state's number has two bits for each variable, whatever N and D are
    private static final int STATES = 1024;
    // STATES rows of MAX_OPERATORS moves
    private static final int MOVES = 10240;
    // the number of a fact is its variable times MAX_VALUES plus its value
    private static final int FACTS = 20;
    // FACTS rows of FACTS bounds; the bound of a single fact stands where its row meets its column
    private static final int FACT_PAIRS = 400;
    // an operator's needs and the one fact of a pair that it doesn't bring about
    private static final int MAX_LISTED = 6;

    private static final int NO_VALUE = -1;
    private static final int NO_FACT = -1;
    private static final int NO_OPERATOR = -1;
    private static final int NO_MOVE = -1;
    // far above every finite sum, and far enough below the greatest int that a weight can be added
    private static final int INFINITE = 1000000000;
    // One number holds cost and length of a way, the cost first: a best way meets no state twice,
    // so its length stays below this.
    private static final int COST_UNIT = 1024;

    private final int variables;
    private final int values;
    private int operators = 0;
    private final int[] costs = new int[MAX_OPERATORS];
    private final int[] needs = new int[TABLE];
    private final int[] effects = new int[TABLE];
    private final int[] starts = new int[MAX_VARIABLES];
    private final int[] goals = new int[MAX_VARIABLES];

    // what the last search met: the states in their order, and the moves between them
    private final int[] order = new int[STATES];
    private int met = 0;
    private final boolean[] seen = new boolean[STATES];
    private final int[] moves = new int[MOVES];
    private final int[] remaining = new int[STATES];

    private final int[] bounds = new int[FACT_PAIRS];
    private final int[] listed = new int[MAX_LISTED];
    private int listedCount = 0;
    private final boolean[] held = new boolean[FACTS];

    public OperatorTasks(int variables, int values) {
        this.variables = within(variables, 1, MAX_VARIABLES);
        this.values = within(values, 2, MAX_VALUES);
        for (int v = 0; v < MAX_VARIABLES; v++) {
            goals[v] = NO_VALUE;
        }
    }

    public int operator(int cost) {
        if (cost < 0 || cost > 9) {
            return BAD_ARG;
        }
        if (operators >= MAX_OPERATORS) {
            return FULL;
        }
        int o = operators;
        costs[o] = cost;
        for (int v = 0; v < MAX_VARIABLES; v++) {
            needs[o * MAX_VARIABLES + v] = NO_VALUE;
            effects[o * MAX_VARIABLES + v] = NO_VALUE;
        }
        operators++;
        return o;
    }

    public int need(int o, int v, int x) {
        if (!isOperator(o) || !isVariable(v) || !isValueOrNone(x)) {
            return BAD_ARG;
        }
        return exchange(needs, o * MAX_VARIABLES + v, x);
    }

    public int effect(int o, int v, int x) {
        if (!isOperator(o) || !isVariable(v) || !isValueOrNone(x)) {
            return BAD_ARG;
        }
        return exchange(effects, o * MAX_VARIABLES + v, x);
    }

    public int begin(int v, int x) {
        if (!isFact(v, x)) {
            return BAD_ARG;
        }
        return exchange(starts, v, x);
    }

    public int goal(int v, int x) {
        if (!isVariable(v) || !isValueOrNone(x)) {
            return BAD_ARG;
        }
        return exchange(goals, v, x);
    }

    public int cost() {
        int best = bestWay();
        return best == INFINITE ? NONE : best / COST_UNIT;
    }

    public int length() {
        int best = bestWay();
        return best == INFINITE ? NONE : best % COST_UNIT;
    }

    public int step(int i) {
        int best = bestWay();
        if (best == INFINITE || i < 0 || i >= best % COST_UNIT) {
            return NONE;
        }
        int state = beginState();
        for (int k = 0; k < i; k++) {
            int o = firstBestOperator(state);
            state = moves[state * MAX_OPERATORS + o];
        }
        return firstBestOperator(state);
    }

    public int reached() {
        explore(NO_FACT, NO_OPERATOR);
        return met;
    }

    public int dead() {
        explore(NO_FACT, NO_OPERATOR);
        endAtGoal();
        measure();
        return met - countMeasured();
    }

    public boolean apart(int v, int x, int u, int y) {
        if (!isFact(v, x) || !isFact(u, y)) {
            return false;
        }
        explore(NO_FACT, NO_OPERATOR);
        for (int i = 0; i < met; i++) {
            if (valueIn(order[i], v) == x && valueIn(order[i], u) == y) {
                return false;
            }
        }
        return true;
    }

    public boolean passes(int v, int x) {
        if (!isFact(v, x) || !planExists(NO_FACT, NO_OPERATOR)) {
            return false;
        }
        return !planExists(v * MAX_VALUES + x, NO_OPERATOR);
    }

    public boolean needed(int o) {
        if (!isOperator(o) || !planExists(NO_FACT, NO_OPERATOR)) {
            return false;
        }
        return !planExists(NO_FACT, o);
    }

    public int returning() {
        explore(NO_FACT, NO_OPERATOR);
        endAtBegin();
        measure();
        return countMeasured();
    }

    public int single(int v, int x) {
        if (!isFact(v, x)) {
            return BAD_ARG;
        }
        findBounds(1);
        int f = v * MAX_VALUES + x;
        return orNone(bounds[f * FACTS + f]);
    }

    public int singleGoal() {
        findBounds(1);
        return goalBound(1);
    }

    public int paired(int v, int x, int u, int y) {
        if (!isFact(v, x) || !isFact(u, y)) {
            return BAD_ARG;
        }
        findBounds(2);
        int f = v * MAX_VALUES + x;
        int g = u * MAX_VALUES + y;
        return orNone(bounds[f * FACTS + g]);
    }

    public int pairedGoal() {
        findBounds(2);
        return goalBound(2);
    }

    public int relaxed() {
        int least = INFINITE;
        for (int chosen = 0; chosen < 1 << operators; chosen++) {
            int sum = sumOfCosts(chosen);
            // Operators of the choice that never can be used do no harm: without them the choice
            // is looked at too, and costs no more.
            if (sum < least && relaxedReachesGoal(chosen)) {
                least = sum;
            }
        }
        return orNone(least);
    }

    // Arguments

    private static int within(int number, int least, int greatest) {
        if (number < least) {
            return least;
        }
        return number > greatest ? greatest : number;
    }

    private boolean isOperator(int o) {
        return o >= 0 && o < operators;
    }

    private boolean isVariable(int v) {
        return v >= 0 && v < variables;
    }

    private boolean isValueOrNone(int x) {
        return x >= NO_VALUE && x < values;
    }

    private boolean isFact(int v, int x) {
        return v >= 0 && v < variables && x >= 0 && x < values;
    }

    private static int exchange(int[] table, int place, int x) {
        int old = table[place];
        table[place] = x;
        return old;
    }

    private static int orNone(int number) {
        return number >= INFINITE ? NONE : number;
    }

    // States

    private static int valueIn(int state, int v) {
        return (state >> (2 * v)) & 3;
    }

    private int beginState() {
        int state = 0;
        for (int v = 0; v < variables; v++) {
            state |= starts[v] << (2 * v);
        }
        return state;
    }

    private boolean hasAll(int state, int[] table, int row) {
        for (int v = 0; v < variables; v++) {
            int x = table[row + v];
            if (x != NO_VALUE && x != valueIn(state, v)) {
                return false;
            }
        }
        return true;
    }

    private int stateAfter(int state, int o) {
        int next = state;
        for (int v = 0; v < variables; v++) {
            int x = effects[o * MAX_VARIABLES + v];
            if (x != NO_VALUE) {
                next = (next & ~(3 << (2 * v))) | (x << (2 * v));
            }
        }
        return next;
    }

    // Meets every state that can be reached without the barred operator and without coming
    // through a state that has the barred fact.
    private void explore(int barredFact, int barredOperator) {
        for (int state = 0; state < STATES; state++) {
            seen[state] = false;
        }
        met = 0;
        int first = beginState();
        meet(first, barredFact);
        for (int head = 0; head < met && head < STATES; head++) {
            int state = order[head];
            for (int o = 0; o < operators; o++) {
                int next = NO_MOVE;
                if (o != barredOperator && hasAll(state, needs, o * MAX_VARIABLES)) {
                    next = stateAfter(state, o);
                    meet(next, barredFact);
                }
                moves[state * MAX_OPERATORS + o] = next;
            }
        }
    }

    private void meet(int state, int barredFact) {
        if (seen[state]) {
            return;
        }
        if (barredFact != NO_FACT
                && valueIn(state, barredFact / MAX_VALUES) == barredFact % MAX_VALUES) {
            return;
        }
        seen[state] = true;
        order[met] = state;
        met++;
    }

    // A plan that goes on beyond a state with the goal's facts has a shorter plan in it that meets
    // no more, so it is enough to look for one such state.
    private boolean planExists(int barredFact, int barredOperator) {
        explore(barredFact, barredOperator);
        for (int i = 0; i < met; i++) {
            if (hasAll(order[i], goals, 0)) {
                return true;
            }
        }
        return false;
    }

    // Ways

    private int bestWay() {
        explore(NO_FACT, NO_OPERATOR);
        endAtGoal();
        measure();
        return remaining[beginState()];
    }

    private void endAtGoal() {
        for (int i = 0; i < met; i++) {
            int state = order[i];
            remaining[state] = hasAll(state, goals, 0) ? 0 : INFINITE;
        }
    }

    private void endAtBegin() {
        for (int i = 0; i < met; i++) {
            remaining[order[i]] = INFINITE;
        }
        remaining[beginState()] = 0;
    }

    // Each round settles at least the states one move farther from the end. States met late are
    // mostly nearer to it, so going from them backwards makes the rounds few.
    private void measure() {
        boolean changed = true;
        for (int round = 0; changed && round < STATES; round++) {
            changed = false;
            for (int i = met - 1; i >= 0; i--) {
                if (shorten(order[i])) {
                    changed = true;
                }
            }
        }
    }

    private boolean shorten(int state) {
        boolean shorter = false;
        for (int o = 0; o < operators; o++) {
            int way = wayBy(state, o);
            if (way < remaining[state]) {
                remaining[state] = way;
                shorter = true;
            }
        }
        return shorter;
    }

    private int wayBy(int state, int o) {
        int next = moves[state * MAX_OPERATORS + o];
        if (next == NO_MOVE || remaining[next] == INFINITE) {
            return INFINITE;
        }
        return remaining[next] + costs[o] * COST_UNIT + 1;
    }

    // All best ways from a state are equally long, so the first in the dictionary begins with the
    // least operator that begins one. Asked only where a way with one move or more is left.
    private int firstBestOperator(int state) {
        for (int o = 0; o < operators; o++) {
            if (wayBy(state, o) == remaining[state]) {
                return o;
            }
        }
        return 0;
    }

    private int countMeasured() {
        int count = 0;
        for (int i = 0; i < met; i++) {
            if (remaining[order[i]] != INFINITE) {
                count++;
            }
        }
        return count;
    }

    // Bounds

    private int goalBound(int most) {
        listedCount = 0;
        listFacts(goals, 0);
        int greatest = greatestBound(most);
        return orNone(greatest);
    }

    // Begins with infinite bounds and lowers them, because the greatest numbers are asked for:
    // facts that only bring about each other at no cost stay infinite.
    private void findBounds(int most) {
        setFirstBounds();
        int facts = variables * MAX_VALUES;
        boolean changed = true;
        for (int round = 0; changed && round < FACT_PAIRS; round++) {
            changed = false;
            for (int f = 0; f < facts; f++) {
                int last = most == 1 ? f : facts - 1;
                for (int g = f; g <= last; g++) {
                    if (lowerBound(f, g, most)) {
                        changed = true;
                    }
                }
            }
        }
    }

    private void setFirstBounds() {
        for (int p = 0; p < FACT_PAIRS; p++) {
            bounds[p] = INFINITE;
        }
        for (int v = 0; v < variables; v++) {
            for (int u = 0; u < variables; u++) {
                int f = v * MAX_VALUES + starts[v];
                int g = u * MAX_VALUES + starts[u];
                bounds[f * FACTS + g] = 0;
            }
        }
    }

    private boolean lowerBound(int f, int g, int most) {
        if (f != g && f / MAX_VALUES == g / MAX_VALUES) {
            return false;
        }
        boolean lower = false;
        for (int o = 0; o < operators; o++) {
            if (bringsAbout(o, f, g)) {
                listRest(o, f, g);
                int bound = greatestBound(most) + costs[o];
                if (bound < bounds[f * FACTS + g]) {
                    bounds[f * FACTS + g] = bound;
                    bounds[g * FACTS + f] = bound;
                    lower = true;
                }
            }
        }
        return lower;
    }

    private boolean bringsAbout(int o, int f, int g) {
        if (takesBack(o, f) || takesBack(o, g)) {
            return false;
        }
        return hasEffect(o, f) || hasEffect(o, g);
    }

    private boolean hasEffect(int o, int f) {
        return effects[o * MAX_VARIABLES + f / MAX_VALUES] == f % MAX_VALUES;
    }

    private boolean takesBack(int o, int f) {
        int x = effects[o * MAX_VARIABLES + f / MAX_VALUES];
        return x != NO_VALUE && x != f % MAX_VALUES;
    }

    private void listRest(int o, int f, int g) {
        listedCount = 0;
        listFacts(needs, o * MAX_VARIABLES);
        int left = hasEffect(o, f) ? g : f;
        if (!hasEffect(o, left)) {
            listed[listedCount] = left;
            listedCount++;
        }
    }

    private void listFacts(int[] table, int row) {
        for (int v = 0; v < variables; v++) {
            int x = table[row + v];
            if (x != NO_VALUE) {
                listed[listedCount] = v * MAX_VALUES + x;
                listedCount++;
            }
        }
    }

    // Of sets of at most this many listed facts. The empty set's is 0.
    private int greatestBound(int most) {
        int greatest = 0;
        for (int i = 0; i < listedCount; i++) {
            int last = most == 1 ? i : listedCount - 1;
            for (int j = i; j <= last; j++) {
                int bound = bounds[listed[i] * FACTS + listed[j]];
                if (bound > greatest) {
                    greatest = bound;
                }
            }
        }
        return greatest;
    }

    // Relaxed plans

    private int sumOfCosts(int chosen) {
        int sum = 0;
        for (int o = 0; o < operators; o++) {
            if ((chosen >> o & 1) == 1) {
                sum += costs[o];
            }
        }
        return sum;
    }

    private boolean relaxedReachesGoal(int chosen) {
        for (int f = 0; f < FACTS; f++) {
            held[f] = false;
        }
        holdAll(starts, 0);
        // a round that lets no further operator be used is followed by no other that does
        for (int round = 0; round < operators; round++) {
            for (int o = 0; o < operators; o++) {
                if ((chosen >> o & 1) == 1 && allHeld(needs, o * MAX_VARIABLES)) {
                    holdAll(effects, o * MAX_VARIABLES);
                }
            }
        }
        return allHeld(goals, 0);
    }

    private void holdAll(int[] table, int row) {
        for (int v = 0; v < variables; v++) {
            int x = table[row + v];
            if (x != NO_VALUE) {
                held[v * MAX_VALUES + x] = true;
            }
        }
    }

    private boolean allHeld(int[] table, int row) {
        for (int v = 0; v < variables; v++) {
            int x = table[row + v];
            if (x != NO_VALUE && !held[v * MAX_VALUES + x]) {
                return false;
            }
        }
        return true;
    }
}
