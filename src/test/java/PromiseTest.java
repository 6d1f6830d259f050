/** Hand-made runs, promise by promise: ordinary inputs, edges and wrong inputs. */
public final class PromiseTest {
    private static final int BAD = OperatorTasks.BAD_ARG;
    private static final int FULL = OperatorTasks.FULL;
    private static final int NONE = OperatorTasks.NONE;
    private static final int[] WILD = {
        Integer.MIN_VALUE, Integer.MIN_VALUE + 1, -1024, -3, -2, -1, 0, 1, 2, 3, 4, 5, 6, 9, 10, 11,
        16, 1023, 1024, 1 << 30, Integer.MAX_VALUE - 1, Integer.MAX_VALUE};

    private static int wrong = 0;

    private static void due(String what, int got, int want) {
        if (got != want) {
            wrong++;
            System.out.println(what + " answered " + got + ", due is " + want);
        }
    }

    private static void due(String what, boolean got, boolean want) {
        due(what, got ? 1 : 0, want ? 1 : 0);
    }

    public static void main(String[] args) {
        constants();
        newObject();
        newObjectOutOfRange();
        addingOperators();
        settingNeeds();
        settingEffects();
        settingBegin();
        settingGoal();
        leastCostBeforeLength();
        lengthBeforeDictionary();
        dictionaryOrder();
        noPlan();
        emptyPlan();
        stepOutOfRange();
        countingPlan();
        operatorUsedOnlyWithAllNeeds();
        reachedAndDead();
        goalStatesCanBeLeft();
        factsApart();
        passedFacts();
        neededOperators();
        returningStates();
        singleBounds();
        singleBoundsOfCircles();
        goalBounds();
        pairedBounds();
        pairedRestWithTwoValues();
        relaxedPlans();
        wrongArguments();
        wildArguments();
        System.out.println(wrong == 0 ? "all answers are as due" : wrong + " answers are not as due");
        if (wrong != 0) {
            System.exit(1);
        }
    }

    /** An operator with one need and one effect on the same variable. */
    private static int move(OperatorTasks t, int cost, int v, int from, int to) {
        int o = t.operator(cost);
        t.need(o, v, from);
        t.effect(o, v, to);
        return o;
    }

    private static void plan(String what, OperatorTasks t, int cost, int... steps) {
        due(what + " cost", t.cost(), cost);
        due(what + " length", t.length(), steps.length);
        for (int i = 0; i < steps.length; i++) {
            due(what + " step " + i, t.step(i), steps[i]);
        }
        due(what + " step after the last", t.step(steps.length), NONE);
    }

    private static void constants() {
        due("BAD_ARG", OperatorTasks.BAD_ARG, -1);
        due("FULL", OperatorTasks.FULL, -2);
        due("NONE", OperatorTasks.NONE, -3);
    }

    // Promise 1

    private static void newObject() {
        OperatorTasks t = new OperatorTasks(3, 3);
        due("1: no operator 0", t.need(0, 0, 0), BAD);
        for (int v = 0; v < 3; v++) {
            due("1: begin is 0", t.begin(v, 0), 0);
            due("1: goal has no value", t.goal(v, -1), -1);
        }
        due("1: goal is empty", t.cost(), 0);
        due("1: only the begin", t.reached(), 1);
    }

    private static void newObjectOutOfRange() {
        int[][] rows = {
            {0, 1, 1, 2}, {-1, 0, 1, 2}, {Integer.MIN_VALUE, Integer.MIN_VALUE, 1, 2},
            {6, 5, 5, 4}, {Integer.MAX_VALUE, Integer.MAX_VALUE, 5, 4},
            {1, 2, 1, 2}, {5, 4, 5, 4}, {2, 3, 2, 3}, {4, 4, 4, 4}};
        for (int[] row : rows) {
            OperatorTasks t = new OperatorTasks(row[0], row[1]);
            String what = "1: new (" + row[0] + ", " + row[1] + ")";
            due(what + " last variable", t.begin(row[2] - 1, 0), 0);
            due(what + " variable beyond", t.begin(row[2], 0), BAD);
            due(what + " last value", t.begin(0, row[3] - 1), 0);
            due(what + " value beyond", t.begin(0, row[3]), BAD);
            due(what + " value kept", t.begin(0, 0), row[3] - 1);
        }
    }

    // Promise 2

    private static void addingOperators() {
        OperatorTasks t = new OperatorTasks(2, 2);
        due("2: cost -1", t.operator(-1), BAD);
        due("2: cost 10", t.operator(10), BAD);
        due("2: refused ones add none", t.need(0, 0, 0), BAD);
        for (int o = 0; o < 10; o++) {
            due("2: number", t.operator(o), o);
            due("2: no need", t.need(o, 1, -1), -1);
            due("2: no effect", t.effect(o, 1, -1), -1);
            due("2: the next is not there", t.need(o + 1, 0, 0), BAD);
        }
        due("2: full", t.operator(0), FULL);
        due("2: full, 9", t.operator(9), FULL);
        due("2: bad cost before full", t.operator(10), BAD);
        due("2: bad cost before full", t.operator(-1), BAD);
        due("2: no operator 10", t.effect(10, 0, 0), BAD);
        t.goal(0, 1);
        t.effect(9, 0, 1);
        due("2: cost 9", t.cost(), 9);
        t.effect(0, 0, 1);
        due("2: cost 0", t.cost(), 0);
    }

    // Promises 3 to 6

    private static void settingNeeds() {
        OperatorTasks t = new OperatorTasks(2, 3);
        t.operator(1);
        t.operator(1);
        due("3: was none", t.need(1, 1, 2), -1);
        due("3: was 2", t.need(1, 1, 0), 2);
        due("3: too great", t.need(1, 1, 3), BAD);
        due("3: too small", t.need(1, 1, -2), BAD);
        due("3: was 0", t.need(1, 1, -1), 0);
        due("3: was none again", t.need(1, 1, -1), -1);
        due("3: other operator untouched", t.need(0, 1, -1), -1);
        due("3: other variable untouched", t.need(1, 0, -1), -1);
        due("3: effects untouched", t.effect(1, 1, -1), -1);
    }

    private static void settingEffects() {
        OperatorTasks t = new OperatorTasks(2, 3);
        t.operator(1);
        t.operator(1);
        due("4: was none", t.effect(0, 1, 2), -1);
        due("4: was 2", t.effect(0, 1, 1), 2);
        due("4: too great", t.effect(0, 1, 3), BAD);
        due("4: too small", t.effect(0, 1, -2), BAD);
        due("4: was 1", t.effect(0, 1, -1), 1);
        due("4: was none again", t.effect(0, 1, 0), -1);
        due("4: other operator untouched", t.effect(1, 1, -1), -1);
        due("4: other variable untouched", t.effect(0, 0, -1), -1);
        due("4: needs untouched", t.need(0, 1, -1), -1);
    }

    private static void settingBegin() {
        OperatorTasks t = new OperatorTasks(2, 3);
        due("5: was 0", t.begin(1, 2), 0);
        due("5: -1 is no value", t.begin(1, -1), BAD);
        due("5: too great", t.begin(1, 3), BAD);
        due("5: no such variable", t.begin(2, 0), BAD);
        due("5: was 2", t.begin(1, 1), 2);
        due("5: other variable untouched", t.begin(0, 0), 0);
        t.goal(1, 1);
        due("5: goal is in the begin", t.cost(), 0);
        t.begin(1, 0);
        due("5: goal no longer in the begin", t.cost(), NONE);
    }

    private static void settingGoal() {
        OperatorTasks t = new OperatorTasks(2, 3);
        due("6: was none", t.goal(1, 2), -1);
        due("6: too great", t.goal(1, 3), BAD);
        due("6: too small", t.goal(1, -2), BAD);
        due("6: no such variable", t.goal(2, 0), BAD);
        due("6: was 2", t.goal(1, 0), 2);
        due("6: goal is in the begin", t.cost(), 0);
        due("6: was 0", t.goal(1, 1), 0);
        due("6: goal is not in the begin", t.cost(), NONE);
        due("6: was 1", t.goal(1, -1), 1);
        due("6: no goal", t.cost(), 0);
        due("6: other variable untouched", t.goal(0, -1), -1);
    }

    // Promises 7 to 9

    private static void leastCostBeforeLength() {
        OperatorTasks t = new OperatorTasks(1, 4);
        move(t, 7, 0, 0, 3);
        move(t, 2, 0, 0, 1);
        move(t, 2, 0, 1, 2);
        move(t, 2, 0, 2, 3);
        t.goal(0, 3);
        plan("7: three cheap ones", t, 6, 1, 2, 3);
    }

    private static void lengthBeforeDictionary() {
        OperatorTasks t = new OperatorTasks(1, 4);
        move(t, 2, 0, 0, 1);
        move(t, 0, 0, 1, 2);
        move(t, 4, 0, 2, 3);
        move(t, 6, 0, 0, 3);
        t.operator(0);
        t.goal(0, 3);
        plan("8: fewest operators of the cheapest", t, 6, 3);
    }

    private static void dictionaryOrder() {
        OperatorTasks t = new OperatorTasks(2, 2);
        move(t, 3, 1, 0, 1);
        move(t, 1, 0, 0, 1);
        move(t, 1, 0, 0, 1);
        t.goal(0, 1);
        t.goal(1, 1);
        plan("9: first in the dictionary", t, 4, 0, 1);
        t.need(0, 0, 1);
        plan("9: the needed one first", t, 4, 1, 0);
        // the dictionary looks at the numbers, not at the costs
        OperatorTasks s = new OperatorTasks(1, 4);
        move(s, 9, 0, 0, 1);
        move(s, 1, 0, 0, 2);
        move(s, 0, 0, 1, 3);
        move(s, 8, 0, 2, 3);
        s.goal(0, 3);
        plan("9: first although its first costs more", s, 9, 0, 2);
        // the end differs only
        OperatorTasks e = new OperatorTasks(1, 3);
        move(e, 1, 0, 0, 1);
        e.operator(5);
        move(e, 2, 0, 1, 2);
        move(e, 2, 0, 1, 2);
        e.goal(0, 2);
        plan("9: first at the end", e, 3, 0, 2);
    }

    private static void noPlan() {
        OperatorTasks t = new OperatorTasks(2, 3);
        move(t, 1, 0, 0, 1);
        t.goal(0, 2);
        due("7: no plan", t.cost(), NONE);
        due("8: no plan", t.length(), NONE);
        due("9: no plan", t.step(0), NONE);
        due("9: no plan, -1", t.step(-1), NONE);
        due("13: no plan", t.passes(0, 0), false);
        due("14: no plan", t.needed(0), false);
        due("11: all are dead", t.dead(), 2);
    }

    private static void emptyPlan() {
        OperatorTasks t = new OperatorTasks(2, 3);
        t.operator(0);
        move(t, 0, 0, 0, 1);
        plan("8: empty goal", t, 0);
        t.goal(0, 0);
        plan("8: goal in the begin", t, 0);
        due("14: empty plan needs none", t.needed(0), false);
        due("13: the begin counts", t.passes(0, 0), true);
        due("13: the begin counts", t.passes(1, 0), true);
        due("13: not passed", t.passes(0, 1), false);
    }

    private static void stepOutOfRange() {
        OperatorTasks t = new OperatorTasks(1, 3);
        move(t, 1, 0, 0, 1);
        move(t, 0, 0, 1, 2);
        t.goal(0, 2);
        due("9: -1", t.step(-1), NONE);
        due("9: 0", t.step(0), 0);
        due("9: 1", t.step(1), 1);
        due("9: 2", t.step(2), NONE);
        due("9: greatest", t.step(Integer.MAX_VALUE), NONE);
        due("9: least", t.step(Integer.MIN_VALUE), NONE);
    }

    /** Operator i turns digit i of a binary counter to 1 and all below to 0. */
    private static OperatorTasks counter() {
        OperatorTasks t = new OperatorTasks(5, 2);
        for (int o = 0; o < 5; o++) {
            t.operator(9 - o);
            t.need(o, o, 0);
            t.effect(o, o, 1);
            for (int v = 0; v < o; v++) {
                t.need(o, v, 1);
                t.effect(o, v, 0);
            }
        }
        return t;
    }

    private static void countingPlan() {
        OperatorTasks t = counter();
        int[] steps = new int[31];
        int cost = 0;
        for (int v = 0; v < 5; v++) {
            t.goal(v, 1);
        }
        for (int i = 0; i < 31; i++) {
            steps[i] = Integer.numberOfTrailingZeros(i + 1);
            cost += 9 - steps[i];
        }
        plan("9: counter", t, cost, steps);
        due("10: counter", t.reached(), 32);
        due("15: counter", t.returning(), 1);
        due("11: counter", t.dead(), 0);
        t.goal(0, 0);
        due("11: counter, the last is dead", t.dead(), 1);
        due("14: counter", t.needed(4), true);
        due("13: counter", t.passes(4, 0), true);
        t.goal(4, 0);
        due("11: counter, the upper half and one are dead", t.dead(), 17);
    }

    private static void operatorUsedOnlyWithAllNeeds() {
        OperatorTasks t = new OperatorTasks(3, 2);
        int o = t.operator(4);
        t.need(o, 0, 0);
        t.need(o, 1, 0);
        t.need(o, 2, 1);
        t.effect(o, 0, 1);
        t.effect(o, 1, 1);
        t.goal(0, 1);
        due("7: one need lacks", t.cost(), NONE);
        t.begin(2, 1);
        due("7: all needs there", t.cost(), 4);
        t.goal(2, 1);
        due("7: other variables stay", t.cost(), 4);
        t.goal(1, 0);
        due("7: all effects come", t.cost(), NONE);
        due("7: reached", t.reached(), 2);
    }

    // Promises 10 to 15

    private static void reachedAndDead() {
        OperatorTasks t = new OperatorTasks(1, 4);
        move(t, 1, 0, 0, 1);
        move(t, 1, 0, 0, 2);
        due("10: three", t.reached(), 3);
        due("11: no goal, none dead", t.dead(), 0);
        t.goal(0, 2);
        due("11: one is dead", t.dead(), 1);
        t.goal(0, 3);
        due("11: all are dead", t.dead(), 3);
        move(t, 9, 0, 1, 3);
        due("10: four", t.reached(), 4);
        due("11: one is dead", t.dead(), 1);
        // only reached states count as dead
        t.begin(0, 2);
        due("10: one", t.reached(), 1);
        due("11: only this", t.dead(), 1);
        t.begin(0, 3);
        due("11: the goal itself is not dead", t.dead(), 0);
        // all states
        OperatorTasks all = new OperatorTasks(5, 4);
        for (int v = 0; v < 5; v++) {
            int o = all.operator(1);
            all.effect(o, v, 3);
        }
        due("10: 2 to the 5", all.reached(), 32);
        OperatorTasks pairs = new OperatorTasks(3, 4);
        for (int v = 0; v < 3; v++) {
            for (int x = 1; x < 4; x++) {
                move(pairs, 1, v, x - 1, x);
            }
        }
        due("10: 4 to the 3", pairs.reached(), 64);
    }

    private static void goalStatesCanBeLeft() {
        OperatorTasks t = new OperatorTasks(1, 3);
        move(t, 1, 0, 0, 1);
        move(t, 1, 0, 1, 2);
        t.goal(0, 1);
        due("10: beyond the goal", t.reached(), 3);
        due("11: beyond the goal it is dead", t.dead(), 1);
        due("13: beyond the goal is not passed", t.passes(0, 2), false);
        due("14: beyond the goal is not needed", t.needed(1), false);
    }

    private static void factsApart() {
        OperatorTasks t = new OperatorTasks(2, 3);
        int o = move(t, 1, 0, 0, 1);
        t.effect(o, 1, 1);
        due("12: together in the begin", t.apart(0, 0, 1, 0), false);
        due("12: together after", t.apart(0, 1, 1, 1), false);
        due("12: the other way round", t.apart(1, 1, 0, 1), false);
        due("12: never together", t.apart(0, 0, 1, 1), true);
        due("12: never together", t.apart(1, 0, 0, 1), true);
        due("12: two values of one variable", t.apart(0, 0, 0, 1), true);
        due("12: a fact with itself", t.apart(0, 1, 0, 1), false);
        due("12: a fact never reached with itself", t.apart(0, 2, 0, 2), true);
        due("12: one fact never reached", t.apart(0, 2, 1, 0), true);
    }

    private static void passedFacts() {
        OperatorTasks t = new OperatorTasks(1, 4);
        move(t, 1, 0, 0, 1);
        move(t, 1, 0, 1, 3);
        t.goal(0, 3);
        due("13: between", t.passes(0, 1), true);
        due("13: begin", t.passes(0, 0), true);
        due("13: last", t.passes(0, 3), true);
        due("13: elsewhere", t.passes(0, 2), false);
        move(t, 9, 0, 0, 2);
        due("13: elsewhere without a way on", t.passes(0, 2), false);
        move(t, 9, 0, 2, 3);
        due("13: a dear plan is a plan too", t.passes(0, 1), false);
        due("13: one of two", t.passes(0, 2), false);
        due("13: last of both", t.passes(0, 3), true);
    }

    private static void neededOperators() {
        OperatorTasks t = new OperatorTasks(1, 3);
        move(t, 1, 0, 0, 1);
        move(t, 1, 0, 1, 2);
        t.operator(0);
        t.goal(0, 2);
        due("14: first", t.needed(0), true);
        due("14: second", t.needed(1), true);
        due("14: without use", t.needed(2), false);
        due("14: not there", t.needed(3), false);
        move(t, 9, 0, 0, 2);
        due("14: a dear plan is a plan too", t.needed(0), false);
        due("14: nor is the dear one needed", t.needed(3), false);
        t.need(3, 0, 1);
        due("14: both plans have it", t.needed(0), true);
        due("14: either will do", t.needed(1), false);
    }

    private static void returningStates() {
        OperatorTasks t = new OperatorTasks(1, 4);
        due("15: only the begin", t.returning(), 1);
        move(t, 1, 0, 0, 1);
        move(t, 1, 0, 1, 2);
        move(t, 1, 0, 2, 3);
        due("15: no way back", t.returning(), 1);
        move(t, 1, 0, 2, 0);
        due("15: back from two", t.returning(), 3);
        t.begin(0, 3);
        due("15: begin at the end", t.returning(), 1);
        move(t, 0, 0, 3, 1);
        due("15: a ring", t.returning(), 4);
        t.goal(0, 2);
        due("15: a goal does not matter", t.returning(), 4);
        t.begin(0, 1);
        due("15: a ring from elsewhere", t.returning(), 4);
    }

    // Promises 16 to 19

    private static void singleBounds() {
        OperatorTasks t = new OperatorTasks(3, 3);
        move(t, 2, 0, 0, 1);
        move(t, 5, 1, 0, 1);
        int both = t.operator(1);
        t.need(both, 0, 1);
        t.need(both, 1, 1);
        t.effect(both, 2, 1);
        due("16: in the begin", t.single(0, 0), 0);
        due("16: one operator", t.single(0, 1), 2);
        due("16: the dearest need counts, not the sum", t.single(2, 1), 6);
        due("16: nothing brings it about", t.single(2, 2), NONE);
        move(t, 3, 2, 0, 1);
        due("16: the cheapest operator counts", t.single(2, 1), 3);
        int other = t.operator(0);
        t.need(other, 0, 2);
        t.effect(other, 2, 2);
        due("16: need that nothing brings about", t.single(2, 2), NONE);
        t.begin(0, 2);
        due("16: need in the begin", t.single(2, 2), 0);
        due("16: bad value", t.single(0, 3), BAD);
        due("16: -1 is no value", t.single(0, -1), BAD);
        due("16: bad variable", t.single(3, 0), BAD);
        due("16: bad variable", t.single(-1, 0), BAD);
    }

    private static void singleBoundsOfCircles() {
        OperatorTasks t = new OperatorTasks(1, 4);
        move(t, 0, 0, 1, 2);
        move(t, 0, 0, 2, 1);
        move(t, 0, 0, 3, 3);
        due("16: a circle at no cost", t.single(0, 1), NONE);
        due("16: a circle at no cost", t.single(0, 2), NONE);
        due("16: a fact from itself", t.single(0, 3), NONE);
        due("18: a circle at no cost", t.paired(0, 1, 0, 1), NONE);
        due("18: a fact from itself", t.paired(0, 3, 0, 3), NONE);
        move(t, 4, 0, 0, 2);
        due("16: a circle with a way in", t.single(0, 1), 4);
        due("18: a circle with a way in", t.paired(0, 1, 0, 1), 4);
    }

    private static void goalBounds() {
        OperatorTasks t = new OperatorTasks(3, 2);
        due("17: no goal", t.singleGoal(), 0);
        due("19: no goal", t.pairedGoal(), 0);
        move(t, 2, 0, 0, 1);
        move(t, 5, 1, 0, 1);
        move(t, 3, 2, 0, 1);
        t.goal(0, 1);
        due("17: one fact", t.singleGoal(), 2);
        due("19: one fact", t.pairedGoal(), 2);
        t.goal(1, 1);
        t.goal(2, 1);
        due("17: the dearest fact", t.singleGoal(), 5);
        due("19: the dearest pair", t.pairedGoal(), 8);
        due("7: all", t.cost(), 10);
        t.need(0, 0, 1);
        due("17: infinite", t.singleGoal(), NONE);
        due("19: infinite", t.pairedGoal(), NONE);
        for (int v = 0; v < 3; v++) {
            t.begin(v, 1);
        }
        due("17: goal in the begin", t.singleGoal(), 0);
        due("19: goal in the begin", t.pairedGoal(), 0);
    }

    private static void pairedBounds() {
        OperatorTasks t = new OperatorTasks(3, 3);
        move(t, 2, 0, 0, 1);
        move(t, 5, 1, 0, 1);
        due("18: both in the begin", t.paired(0, 0, 1, 0), 0);
        due("18: one in the begin", t.paired(0, 1, 1, 0), 2);
        due("18: sum", t.paired(0, 1, 1, 1), 7);
        due("18: the other way round", t.paired(1, 1, 0, 1), 7);
        due("18: one fact", t.paired(1, 1, 1, 1), 5);
        due("18: two values of a variable", t.paired(0, 0, 0, 1), NONE);
        due("18: one is infinite", t.paired(0, 0, 1, 2), NONE);
        int both = t.operator(4);
        t.effect(both, 0, 1);
        t.effect(both, 1, 1);
        due("18: one operator for both", t.paired(0, 1, 1, 1), 4);
        due("18: the pair of needs counts for a single fact", t.paired(0, 1, 0, 1), 2);
        int after = t.operator(1);
        t.need(after, 0, 1);
        t.need(after, 1, 1);
        t.effect(after, 2, 1);
        t.effect(both, 2, 2);
        t.need(both, 2, 1);
        due("18: needs as a pair", t.paired(2, 1, 2, 1), 8);
        due("16: needs one by one", t.single(2, 1), 6);
        due("18: bad", t.paired(0, 0, 3, 0), BAD);
        due("18: bad", t.paired(0, 0, 0, 3), BAD);
        due("18: bad", t.paired(0, 0, 0, -1), BAD);
        due("18: bad", t.paired(0, 3, 0, 0), BAD);
        due("18: bad", t.paired(0, -1, 0, 0), BAD);
        due("18: bad", t.paired(-1, 0, 0, 0), BAD);
        due("18: bad", t.paired(0, 0, -1, 0), BAD);
    }

    private static void pairedRestWithTwoValues() {
        OperatorTasks t = new OperatorTasks(2, 3);
        int o = t.operator(1);
        t.need(o, 0, 0);
        t.effect(o, 1, 1);
        move(t, 2, 0, 0, 1);
        due("18: after the need is taken back", t.paired(0, 1, 1, 1), 3);
        t.need(1, 1, 0);
        due("18: neither can be last", t.paired(0, 1, 1, 1), NONE);
        due("18: each alone", t.paired(0, 1, 0, 1), 2);
        due("18: each alone", t.paired(1, 1, 1, 1), 1);
        t.need(1, 1, -1);
        t.effect(1, 1, 2);
        due("18: the effect takes the other back", t.paired(0, 1, 1, 1), NONE);
        due("18: both effects", t.paired(0, 1, 1, 2), 2);
        due("18: an effect in place of the need", t.paired(0, 0, 1, 1), 1);
    }

    // Promise 20

    private static void relaxedPlans() {
        OperatorTasks t = new OperatorTasks(3, 2);
        due("20: no goal", t.relaxed(), 0);
        int shared = move(t, 3, 0, 0, 1);
        int first = move(t, 1, 1, 0, 1);
        int second = move(t, 1, 2, 0, 1);
        t.need(first, 0, 1);
        t.need(second, 0, 1);
        t.goal(1, 1);
        due("20: two operators", t.relaxed(), 4);
        t.goal(2, 1);
        due("20: a shared one counts once", t.relaxed(), 5);
        t.goal(0, 0);
        due("20: nothing is taken back", t.relaxed(), 5);
        due("7: but a plan must", t.cost(), NONE);
        int dear = t.operator(9);
        t.effect(dear, 2, 1);
        due("20: dear", t.relaxed(), 5);
        t.need(shared, 0, 1);
        due("20: none", t.relaxed(), NONE);
        t.effect(dear, 1, 1);
        due("20: only the dear", t.relaxed(), 9);
        t.begin(0, 1);
        t.goal(0, 1);
        due("20: needs in the begin", t.relaxed(), 2);
        // an order that goes against the numbers, through all ten
        OperatorTasks chain = new OperatorTasks(5, 3);
        for (int o = 0; o < 10; o++) {
            int place = 9 - o;
            chain.operator(1);
            chain.effect(o, place / 2, place % 2 + 1);
            if (place > 0) {
                chain.need(o, (place - 1) / 2, (place - 1) % 2 + 1);
            }
        }
        chain.goal(4, 2);
        due("20: a chain of ten", chain.relaxed(), 10);
        chain.goal(4, 1);
        due("20: a chain of nine", chain.relaxed(), 9);
        // costs nothing
        OperatorTasks free = new OperatorTasks(1, 2);
        move(free, 0, 0, 1, 1);
        free.goal(0, 1);
        due("20: a fact from itself", free.relaxed(), NONE);
        move(free, 0, 0, 0, 1);
        due("20: for nothing", free.relaxed(), 0);
    }

    // Promise 21

    private static void wrongArguments() {
        OperatorTasks t = new OperatorTasks(2, 3);
        t.operator(1);
        int[][] bad = {{-1, 0}, {2, 0}, {0, 3}, {0, -2}, {1, 3}, {5, 5}};
        for (int[] b : bad) {
            due("21: need", t.need(0, b[0], b[1]), BAD);
            due("21: effect", t.effect(0, b[0], b[1]), BAD);
            due("21: goal", t.goal(b[0], b[1]), BAD);
            due("21: begin", t.begin(b[0], b[1]), BAD);
            due("21: single", t.single(b[0], b[1]), BAD);
            due("21: paired", t.paired(b[0], b[1], 0, 0), BAD);
            due("21: paired", t.paired(0, 0, b[0], b[1]), BAD);
            due("21: apart", t.apart(b[0], b[1], 0, 1), false);
            due("21: apart", t.apart(0, 1, b[0], b[1]), false);
            due("21: passes", t.passes(b[0], b[1]), false);
        }
        due("21: apart", t.apart(0, -1, 1, 0), false);
        due("21: apart", t.apart(1, 0, 0, -1), false);
        due("21: passes", t.passes(0, -1), false);
        due("21: need of no operator", t.need(1, 0, 0), BAD);
        due("21: need of no operator", t.need(-1, 0, 0), BAD);
        due("21: effect of no operator", t.effect(1, 0, -1), BAD);
        due("21: effect of no operator", t.effect(-1, 0, -1), BAD);
        due("21: needed of no operator", t.needed(1), false);
        due("21: needed of no operator", t.needed(-1), false);
        due("21: nothing changed", t.need(0, 0, -1), -1);
        due("21: nothing changed", t.need(0, 1, -1), -1);
        due("21: nothing changed", t.effect(0, 0, -1), -1);
        due("21: nothing changed", t.effect(0, 1, -1), -1);
        due("21: nothing changed", t.goal(0, -1), -1);
        due("21: nothing changed", t.begin(0, 0), 0);
        due("21: nothing changed", t.begin(1, 0), 0);
    }

    /** No call throws, and out of range everything is refused. */
    private static void wildArguments() {
        for (int a : WILD) {
            for (int b : WILD) {
                OperatorTasks t = new OperatorTasks(a, b);
                int n = a < 1 ? 1 : Math.min(a, 5);
                int d = b < 2 ? 2 : Math.min(b, 4);
                for (int v : WILD) {
                    boolean variable = v >= 0 && v < n;
                    due("wild begin", t.begin(v, 0), variable ? 0 : BAD);
                    due("wild goal", t.goal(v, -1), variable ? -1 : BAD);
                    due("wild single", t.single(v, 0), variable ? 0 : BAD);
                    boolean value = v >= 0 && v < d;
                    due("wild value", t.single(0, v), v == 0 ? 0 : value ? NONE : BAD);
                    due("wild value", t.paired(0, 0, 0, v), v == 0 ? 0 : value ? NONE : BAD);
                    due("wild value", t.apart(0, v, 0, v), value && v != 0);
                    due("wild value", t.passes(0, v), v == 0);
                    due("wild step", t.step(v), NONE);
                    due("wild needed", t.needed(v), false);
                    due("wild need", t.need(v, 0, 0), BAD);
                    due("wild effect", t.effect(v, 0, 0), BAD);
                }
            }
        }
    }
}
