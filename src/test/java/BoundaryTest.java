import java.util.ArrayList;
import java.util.List;
import java.util.function.ToIntFunction;

/**
 * The document read from top to bottom: each sentence that names a boundary case (too small, too
 * large, empty, full, a wrap-around, a refused call) has a test of its own here, under that
 * sentence. No object is asked more than 512 times.
 */
public final class BoundaryTest {
    private static final int BAD = OperatorTasks.BAD_ARG;
    private static final int FULL = OperatorTasks.FULL;
    private static final int NONE = OperatorTasks.NONE;
    private static final int MIN = Integer.MIN_VALUE;
    private static final int MAX = Integer.MAX_VALUE;

    /**
     * In no range of the document but the one of step. Beside the extremes these are numbers that
     * come to something small if they are cut to 8 or 16 bits, multiplied by 4, 5 or 10, or
     * doubled as the width of a shift.
     */
    private static final int[] FAR_OFF = {
        MIN, MIN + 1, -1431655764, -1073741824, -858993459, -65536, -65535, -256, -255, -32, -16,
        -4, -3, -2, 11, 15, 16, 17, 20, 32, 33, 64, 255, 256, 257, 1023, 1024, 65535, 65536, 65537,
        429496730, 858993460, 1 << 29, 1 << 30, (1 << 30) + 1, MAX - 1, MAX};

    private static String sentence = "";
    private static int compared = 0;
    private static int wrong = 0;

    private static void of(String words, Runnable test) {
        sentence = words;
        int before = compared;
        try {
            test.run();
        } catch (RuntimeException e) {
            wrong++;
            System.out.println("\"" + sentence + "\": threw " + e);
        }
        if (compared == before) {
            wrong++;
            System.out.println("\"" + sentence + "\": compares nothing");
        }
    }

    private static void due(String call, int got, int want) {
        compared++;
        if (got != want) {
            wrong++;
            System.out.println("\"" + sentence + "\": " + call + " answered " + got + ", due is " + want);
        }
    }

    private static void due(String call, boolean got, boolean want) {
        due(call, got ? 1 : 0, want ? 1 : 0);
    }

    public static void main(String[] args) {
        whatItIs();
        ranges();
        plans();
        bestPlans();
        bounds();
        relaxedPlans();
        wrongArguments();
        refusals();
        promise1();
        promise2();
        promises3And4();
        promises5And6();
        promises7To9();
        promises10To12();
        promises13To15();
        promises16And17();
        promises18And19();
        promise20();
        promise21();
        System.out.println(compared + " answers compared");
        System.out.println(wrong == 0 ? "all answers are as due" : wrong + " are not as due");
        if (wrong != 0) {
            System.exit(1);
        }
    }

    // How tasks are written down here: facts(v, x, u, y) are v = x and u = y.

    private static int[] facts(int... variablesAndValues) {
        return variablesAndValues;
    }

    private static int[] all(int n, int x) {
        int[] facts = new int[2 * n];
        for (int v = 0; v < n; v++) {
            facts[2 * v] = v;
            facts[2 * v + 1] = x;
        }
        return facts;
    }

    private static int add(OperatorTasks t, int cost, int[] needs, int[] effects) {
        int o = t.operator(cost);
        for (int i = 0; i < needs.length; i += 2) {
            t.need(o, needs[i], needs[i + 1]);
        }
        for (int i = 0; i < effects.length; i += 2) {
            t.effect(o, effects[i], effects[i + 1]);
        }
        return o;
    }

    private static void aim(OperatorTasks t, int... goal) {
        for (int i = 0; i < goal.length; i += 2) {
            t.goal(goal[i], goal[i + 1]);
        }
    }

    private static void start(OperatorTasks t, int... begin) {
        for (int i = 0; i < begin.length; i += 2) {
            t.begin(begin[i], begin[i + 1]);
        }
    }

    private static void duePlan(OperatorTasks t, int cost, int... steps) {
        due("cost()", t.cost(), cost);
        due("length()", t.length(), steps.length);
        for (int i = 0; i < steps.length; i++) {
            due("step(" + i + ")", t.step(i), steps[i]);
        }
        due("step(" + steps.length + ")", t.step(steps.length), NONE);
    }

    private static void dueNoPlan(OperatorTasks t) {
        due("cost()", t.cost(), NONE);
        due("length()", t.length(), NONE);
        due("step(0)", t.step(0), NONE);
    }

    /**
     * Counts with five digits, each 0 to 2, from 00000 up to 22222: operator 2i makes digit i 1,
     * operator 2i + 1 makes it 2, and both make the digits below, which must be 2, 0. All ten
     * operators, 243 states in one row. Made in 75 calls.
     */
    private static OperatorTasks counter(int costOfOnes, int costOfTwos) {
        OperatorTasks t = new OperatorTasks(5, 3);
        for (int o = 0; o < 10; o++) {
            t.operator(o % 2 == 0 ? costOfOnes : costOfTwos);
            for (int v = 0; v < o / 2; v++) {
                t.need(o, v, 2);
                t.effect(o, v, 0);
            }
            t.need(o, o / 2, o % 2);
            t.effect(o, o / 2, o % 2 + 1);
        }
        aim(t, all(5, 2));
        return t;
    }

    private static int counterStep(int i) {
        int rest = i + 1;
        int digit = 0;
        while (rest % 3 == 0) {
            rest /= 3;
            digit++;
        }
        return 2 * digit + rest % 3 - 1;
    }

    /**
     * Found by a search for many states: 620 of the 1024 with five variables of four values are
     * reached, and the last of them needs 7 operators.
     */
    private static OperatorTasks crowd() {
        OperatorTasks t = new OperatorTasks(5, 4);
        int[] none = facts();
        add(t, 1, none, facts(3, 2, 4, 3));
        add(t, 1, none, facts(1, 3, 4, 2));
        add(t, 1, facts(0, 1), facts(0, 3, 4, 1));
        add(t, 1, none, facts(2, 2));
        add(t, 1, none, facts(0, 1));
        add(t, 1, facts(2, 2), facts(2, 1, 4, 0));
        add(t, 1, none, facts(0, 2, 1, 2));
        add(t, 1, none, facts(1, 1, 3, 1));
        add(t, 1, none, facts(3, 3));
        add(t, 1, none, facts(1, 0, 2, 3));
        return t;
    }

    // What it is

    private static void whatItIs() {
        of("at most 512 calls: the 512th still answers, whichever it is", () -> {
            ask512th("operator(9)", t -> t.operator(9), 1);
            ask512th("need(0, 0, 1)", t -> t.need(0, 0, 1), 0);
            ask512th("effect(0, 0, 2)", t -> t.effect(0, 0, 2), 1);
            ask512th("begin(1, 2)", t -> t.begin(1, 2), 0);
            ask512th("goal(0, 2)", t -> t.goal(0, 2), 1);
            ask512th("cost()", OperatorTasks::cost, 4);
            ask512th("length()", OperatorTasks::length, 1);
            ask512th("step(0)", t -> t.step(0), 0);
            ask512th("reached()", OperatorTasks::reached, 2);
            ask512th("dead()", OperatorTasks::dead, 0);
            ask512th("apart(0, 0, 0, 1)", t -> t.apart(0, 0, 0, 1) ? 1 : 0, 1);
            ask512th("passes(0, 1)", t -> t.passes(0, 1) ? 1 : 0, 1);
            ask512th("needed(0)", t -> t.needed(0) ? 1 : 0, 1);
            ask512th("returning()", OperatorTasks::returning, 1);
            ask512th("single(0, 1)", t -> t.single(0, 1), 4);
            ask512th("singleGoal()", OperatorTasks::singleGoal, 4);
            ask512th("paired(0, 1, 1, 0)", t -> t.paired(0, 1, 1, 0), 4);
            ask512th("pairedGoal()", OperatorTasks::pairedGoal, 4);
            ask512th("relaxed()", OperatorTasks::relaxed, 4);
        });
        of("at most 512 calls: all of them may be changes", () -> {
            OperatorTasks t = new OperatorTasks(2, 4);
            due("operator(0)", t.operator(0), 0);
            int before = -1;
            for (int call = 2; call <= 512; call++) {
                int x = call * 7 % 5 - 1;
                due("need(0, 1, " + x + ") as call " + call, t.need(0, 1, x), before);
                before = x;
            }
        });
        of("at most 512 calls: all of them may be refused", () -> {
            OperatorTasks t = new OperatorTasks(1, 2);
            for (int call = 1; call <= 511; call++) {
                due("operator(10)", t.operator(10), BAD);
            }
            due("operator(9) as the 512th", t.operator(9), 0);
        });
    }

    private static void ask512th(String name, ToIntFunction<OperatorTasks> call, int want) {
        OperatorTasks t = new OperatorTasks(2, 3);
        t.operator(4);
        t.need(0, 0, 0);
        t.effect(0, 0, 1);
        t.goal(0, 1);
        for (int made = 4; made < 511; made += 3) {
            due("cost()", t.cost(), 4);
            due("operator(-1)", t.operator(-1), BAD);
            due("begin(1, 0)", t.begin(1, 0), 0);
        }
        due(name + " as the 512th", call.applyAsInt(t), want);
    }

    // Terms: ranges

    private static void ranges() {
        of("N variables, numbered from 0 on, N from 1 to 5", () -> {
            for (int n = 1; n <= 5; n++) {
                OperatorTasks t = new OperatorTasks(n, 2);
                for (int v = 0; v < n; v++) {
                    add(t, 1, facts(v, 0), facts(v, 1));
                    due("goal of the last variable so far", t.goal(v, 1), -1);
                }
                due("cost with N = " + n, t.cost(), n);
                due("reached with N = " + n, t.reached(), 1 << n);
                due("relaxed with N = " + n, t.relaxed(), n);
                due("variable N", t.begin(n, 0), BAD);
                due("variable -1", t.begin(-1, 0), BAD);
            }
        });
        of("a value from 0 to D - 1, D from 2 to 4", () -> {
            for (int d = 2; d <= 4; d++) {
                OperatorTasks t = new OperatorTasks(1, d);
                for (int x = 1; x < d; x++) {
                    add(t, 1, facts(0, x - 1), facts(0, x));
                    due("goal " + x, t.goal(0, x), x == 1 ? -1 : x - 1);
                    due("cost of value " + x, t.cost(), x);
                }
                due("reached with D = " + d, t.reached(), d);
                due("value D", t.begin(0, d), BAD);
                due("value -1", t.begin(0, -1), BAD);
            }
        });
        of("a state gives each variable a value: none spills over into another's", () -> {
            for (int v = 0; v < 5; v++) {
                OperatorTasks t = new OperatorTasks(5, 4);
                start(t, all(5, 2));
                for (int x = 0; x < 4; x++) {
                    t.begin(v, x);
                    for (int u = 0; u < 5; u++) {
                        for (int y = 0; y < 4; y++) {
                            int has = u == v ? x : 2;
                            due("passes(" + u + ", " + y + ")", t.passes(u, y), y == has);
                        }
                    }
                }
            }
        });
        of("at most 10 operators, numbered from 0 on: all ten take part", () -> {
            OperatorTasks t = counter(1, 1);
            for (int o = 0; o < 10; o++) {
                due("needed(" + o + ")", t.needed(o), true);
            }
            due("operator(0)", t.operator(0), FULL);
            due("relaxed()", t.relaxed(), 10);
            due("single(4, 2)", t.single(4, 2), 10);
        });
        of("each have a cost, 0 to 9", () -> {
            for (int c = 0; c <= 9; c++) {
                OperatorTasks t = new OperatorTasks(1, 2);
                due("operator(" + c + ")", t.operator(c), 0);
                t.effect(0, 0, 1);
                t.goal(0, 1);
                due("cost()", t.cost(), c);
                due("relaxed()", t.relaxed(), c);
                due("singleGoal()", t.singleGoal(), c);
                due("pairedGoal()", t.pairedGoal(), c);
            }
        });
        of("the greatest costs add up", () -> {
            OperatorTasks t = counter(9, 9);
            due("cost()", t.cost(), 2178);
            due("length()", t.length(), 242);
            due("relaxed()", t.relaxed(), 90);
            due("singleGoal()", t.singleGoal(), 90);
        });
        of("needs: for each variable a value or none (none of any)", () -> {
            OperatorTasks t = new OperatorTasks(2, 3);
            add(t, 1, facts(0, 0), facts(0, 1));
            add(t, 1, facts(), facts(1, 2));
            t.goal(1, 2);
            due("reached()", t.reached(), 4);
            due("dead()", t.dead(), 0);
            t.need(1, 0, 0);
            due("dead() where it needs value 0", t.dead(), 1);
        });
        of("needs: for each variable a value or none (a value of each)", () -> {
            OperatorTasks t = new OperatorTasks(5, 4);
            add(t, 9, all(5, 3), all(5, 1));
            aim(t, all(5, 1));
            start(t, all(5, 3));
            due("cost()", t.cost(), 9);
            due("relaxed()", t.relaxed(), 9);
            due("pairedGoal()", t.pairedGoal(), 9);
            for (int v = 0; v < 5; v++) {
                t.begin(v, 2);
                due("cost() where need " + v + " lacks", t.cost(), NONE);
                due("relaxed() where need " + v + " lacks", t.relaxed(), NONE);
                due("singleGoal() where need " + v + " lacks", t.singleGoal(), NONE);
                due("pairedGoal() where need " + v + " lacks", t.pairedGoal(), NONE);
                t.begin(v, 3);
            }
        });
        of("needs: for each variable a value or none (a value of each, and a fact beside them)", () -> {
            OperatorTasks t = new OperatorTasks(5, 4);
            add(t, 9, all(5, 3), facts(0, 1));
            start(t, all(5, 3));
            for (int v = 1; v < 5; v++) {
                for (int x = 0; x < 4; x++) {
                    due("paired(0, 1, v, x)", t.paired(0, 1, v, x), x == 3 ? 9 : NONE);
                    due("paired(v, x, 0, 1)", t.paired(v, x, 0, 1), x == 3 ? 9 : NONE);
                }
            }
        });
        of("effects: for each variable a value or none (none of any)", () -> {
            OperatorTasks t = new OperatorTasks(1, 2);
            t.operator(0);
            t.begin(0, 1);
            t.goal(0, 0);
            due("reached()", t.reached(), 1);
            due("cost()", t.cost(), NONE);
            due("single(0, 0)", t.single(0, 0), NONE);
            due("paired(0, 0, 0, 0)", t.paired(0, 0, 0, 0), NONE);
            due("relaxed()", t.relaxed(), NONE);
            t.effect(0, 0, 0);
            due("reached() with effect 0", t.reached(), 2);
            due("cost() with effect 0", t.cost(), 0);
            due("single(0, 0) with effect 0", t.single(0, 0), 0);
            due("relaxed() with effect 0", t.relaxed(), 0);
        });
        of("the next state has its effects as facts and is otherwise the same", () -> {
            for (int v = 0; v < 5; v++) {
                OperatorTasks t = new OperatorTasks(5, 4);
                start(t, all(5, 1));
                add(t, 1, facts(), facts(v, 3));
                aim(t, all(5, 1));
                t.goal(v, 3);
                due("cost()", t.cost(), 1);
                due("reached()", t.reached(), 2);
                t.goal((v + 1) % 5, 0);
                due("cost() where another would have to change", t.cost(), NONE);
            }
        });
    }

    // Terms: plans

    private static void plans() {
        of("the goal: for each variable a value or none (none of any)", () -> {
            OperatorTasks t = new OperatorTasks(2, 2);
            add(t, 0, facts(), facts(0, 1));
            duePlan(t, 0);
            due("dead()", t.dead(), 0);
            due("relaxed()", t.relaxed(), 0);
        });
        of("the goal: for each variable a value or none (value 0 is one)", () -> {
            OperatorTasks t = new OperatorTasks(2, 2);
            t.begin(1, 1);
            t.goal(1, 0);
            dueNoPlan(t);
            due("dead()", t.dead(), 1);
            due("singleGoal()", t.singleGoal(), NONE);
            due("pairedGoal()", t.pairedGoal(), NONE);
            due("relaxed()", t.relaxed(), NONE);
        });
        of("the goal: for each variable a value or none (a value of each)", () -> {
            OperatorTasks t = new OperatorTasks(5, 4);
            aim(t, all(5, 3));
            start(t, all(5, 3));
            due("cost()", t.cost(), 0);
            for (int v = 0; v < 5; v++) {
                t.begin(v, 0);
                due("cost() where fact " + v + " lacks", t.cost(), NONE);
                due("dead() where fact " + v + " lacks", t.dead(), 1);
                due("relaxed() where fact " + v + " lacks", t.relaxed(), NONE);
                due("singleGoal() where fact " + v + " lacks", t.singleGoal(), NONE);
                due("pairedGoal() where fact " + v + " lacks", t.pairedGoal(), NONE);
                t.begin(v, 3);
            }
        });
        of("such that the last state has the goal's facts: an empty list is a plan", () -> {
            OperatorTasks t = new OperatorTasks(1, 2);
            t.goal(0, 0);
            duePlan(t, 0);
            due("passes(0, 0)", t.passes(0, 0), true);
        });
        of("such that the last state has the goal's facts: not one now and one then", () -> {
            OperatorTasks t = new OperatorTasks(2, 2);
            add(t, 1, facts(), facts(0, 1, 1, 0));
            add(t, 1, facts(), facts(0, 0, 1, 1));
            aim(t, all(2, 1));
            dueNoPlan(t);
            due("dead()", t.dead(), 3);
        });
        of("its cost is the sum of theirs, each counted as often as it is used", () -> {
            OperatorTasks t = new OperatorTasks(2, 2);
            add(t, 4, facts(0, 0), facts(0, 1));
            add(t, 3, facts(0, 1, 1, 0), facts(0, 0, 1, 1));
            aim(t, all(2, 1));
            duePlan(t, 11, 0, 1, 0);
        });
        of("a state is reached if such operators lead to it: none lead to the begin", () -> {
            OperatorTasks t = new OperatorTasks(2, 2);
            due("reached()", t.reached(), 1);
            due("apart(0, 0, 1, 0)", t.apart(0, 0, 1, 0), false);
        });
        of("a state is reached if such operators (not to a goal) lead to it", () -> {
            OperatorTasks t = new OperatorTasks(1, 3);
            add(t, 1, facts(0, 0), facts(0, 1));
            add(t, 1, facts(0, 1), facts(0, 2));
            t.goal(0, 0);
            due("reached() beyond a goal in the begin", t.reached(), 3);
            t.goal(0, 1);
            due("reached() beyond a goal on the way", t.reached(), 3);
            t.goal(0, -1);
            due("reached() without a goal", t.reached(), 3);
        });
        of("it is dead if none lead from it to a state with the goal's facts", () -> {
            OperatorTasks t = new OperatorTasks(1, 3);
            add(t, 1, facts(0, 0), facts(0, 1));
            add(t, 1, facts(0, 1), facts(0, 2));
            t.goal(0, 1);
            due("dead() where the goal itself goes on to a dead one", t.dead(), 1);
            t.goal(0, 2);
            due("dead() where all lead on", t.dead(), 0);
            t.goal(0, 0);
            due("dead() where the begin alone has the goal", t.dead(), 2);
        });
        of("it is dead if none lead from it: they may lead back to states met before", () -> {
            OperatorTasks t = backward();
            due("dead()", t.dead(), 0);
            t.need(2, 0, 3);
            due("dead() without the way back", t.dead(), 1);
            OperatorTasks far = upAndDown(5);
            aim(far, all(5, 0));
            due("dead() where the goal is far back", far.dead(), 0);
            far.goal(4, 1);
            due("dead() where the goal is halfway", far.dead(), 0);
            far.need(9, 4, 0);
            aim(far, all(5, 0));
            due("dead() where the upper half has no way back", far.dead(), 16);
        });
    }

    /** Goes from 0 to 1 and 2, from 2 back to 1, and from there to the goal 3. */
    private static OperatorTasks backward() {
        OperatorTasks t = new OperatorTasks(1, 4);
        add(t, 9, facts(0, 0), facts(0, 1));
        add(t, 1, facts(0, 0), facts(0, 2));
        add(t, 1, facts(0, 2), facts(0, 1));
        add(t, 0, facts(0, 1), facts(0, 3));
        t.goal(0, 3);
        return t;
    }

    /**
     * Counts with this many digits 0 and 1 upwards by operators of cost 9, one for each digit, and
     * downwards by as many of cost 0.
     */
    private static OperatorTasks upAndDown(int digits) {
        OperatorTasks t = new OperatorTasks(digits, 2);
        for (int from = 0; from < 2; from++) {
            for (int i = 0; i < digits; i++) {
                int[] needs = all(i + 1, 1 - from);
                int[] effects = all(i + 1, from);
                needs[2 * i + 1] = from;
                effects[2 * i + 1] = 1 - from;
                add(t, from == 0 ? 9 : 0, needs, effects);
            }
        }
        return t;
    }

    private static void bestPlans() {
        of("the best plan is, of those with the least cost", () -> {
            OperatorTasks t = new OperatorTasks(1, 4);
            add(t, 1, facts(), facts(0, 3));
            add(t, 0, facts(0, 0), facts(0, 1));
            add(t, 0, facts(0, 1), facts(0, 2));
            add(t, 0, facts(0, 2), facts(0, 3));
            t.goal(0, 3);
            duePlan(t, 0, 1, 2, 3);
        });
        of("of those with the least cost: more operators may cost less", () -> {
            duePlan(backward(), 2, 1, 2, 3);
            OperatorTasks t = upAndDown(4);
            add(t, 0, all(4, 0), all(4, 1));
            aim(t, 0, 1, 1, 0, 2, 0, 3, 0);
            duePlan(t, 0, 8, 4, 5, 4, 6, 4, 5, 4, 7, 4, 5, 4, 6, 4, 5);
        });
        of("of these those with the fewest operators", () -> {
            OperatorTasks t = new OperatorTasks(1, 4);
            t.operator(0);
            add(t, 0, facts(0, 0), facts(0, 1));
            add(t, 0, facts(0, 1), facts(0, 0));
            add(t, 0, facts(0, 1), facts(0, 3));
            duePlan(t, 0);
            t.goal(0, 3);
            duePlan(t, 0, 1, 3);
            add(t, 0, facts(0, 0), facts(0, 3));
            duePlan(t, 0, 4);
        });
        of("the first as in a dictionary: of ten that do the same, number 0", () -> {
            OperatorTasks t = new OperatorTasks(1, 2);
            for (int o = 0; o < 10; o++) {
                add(t, 3, facts(), facts(0, 1));
            }
            t.goal(0, 1);
            duePlan(t, 3, 0);
            for (int o = 0; o < 9; o++) {
                t.need(o, 0, 1);
                duePlan(t, 3, o + 1);
            }
        });
        of("the first as in a dictionary: the first place counts most", () -> {
            OperatorTasks t = new OperatorTasks(1, 4);
            add(t, 0, facts(0, 1), facts(0, 3));
            add(t, 5, facts(0, 0), facts(0, 2));
            add(t, 5, facts(0, 0), facts(0, 1));
            add(t, 0, facts(0, 2), facts(0, 3));
            t.goal(0, 3);
            duePlan(t, 5, 1, 3);
        });
        of("the first as in a dictionary: the last place counts too", () -> {
            OperatorTasks t = new OperatorTasks(1, 3);
            add(t, 5, facts(0, 0), facts(0, 1));
            t.operator(0);
            add(t, 5, facts(0, 1), facts(0, 2));
            add(t, 5, facts(0, 1), facts(0, 2));
            t.goal(0, 2);
            duePlan(t, 10, 0, 2);
        });
    }

    // Terms: bounds

    private static void bounds() {
        of("the bound of a set of facts is infinite if it has two values of one variable", () -> {
            OperatorTasks t = new OperatorTasks(2, 4);
            for (int x = 0; x < 4; x++) {
                add(t, 0, facts(), facts(0, x));
            }
            for (int x = 0; x < 4; x++) {
                for (int y = 0; y < 4; y++) {
                    due("paired(0, " + x + ", 0, " + y + ")", t.paired(0, x, 0, y), x == y ? 0 : NONE);
                }
            }
        });
        of("0 if the begin has them all, else", () -> {
            OperatorTasks t = new OperatorTasks(2, 4);
            start(t, 0, 3, 1, 2);
            add(t, 5, facts(), facts(0, 3, 1, 2));
            due("single(0, 3)", t.single(0, 3), 0);
            due("single(1, 2)", t.single(1, 2), 0);
            due("paired(0, 3, 1, 2)", t.paired(0, 3, 1, 2), 0);
            due("paired(0, 3, 0, 3)", t.paired(0, 3, 0, 3), 0);
            t.begin(1, 1);
            due("paired(0, 3, 1, 2) where the begin has one", t.paired(0, 3, 1, 2), 5);
            t.begin(0, 1);
            due("paired(0, 3, 1, 2) where the begin has none", t.paired(0, 3, 1, 2), 5);
        });
        of("the least value over all operators", () -> {
            OperatorTasks t = new OperatorTasks(2, 2);
            add(t, 7, facts(), facts(0, 1));
            add(t, 3, facts(), facts(0, 1));
            add(t, 5, facts(), facts(0, 1));
            due("single(0, 1)", t.single(0, 1), 3);
            due("paired(0, 1, 0, 1)", t.paired(0, 1, 0, 1), 3);
            due("paired(0, 1, 1, 0)", t.paired(0, 1, 1, 0), 3);
        });
        of("operators one of whose effects is in the set", () -> {
            OperatorTasks t = new OperatorTasks(3, 2);
            t.operator(0);
            add(t, 0, facts(), facts(2, 1));
            add(t, 6, facts(), facts(0, 1));
            add(t, 6, facts(), facts(1, 1));
            due("single(0, 1)", t.single(0, 1), 6);
            due("paired(0, 1, 1, 1)", t.paired(0, 1, 1, 1), 12);
        });
        of("none of whose effects is another value of a variable in the set", () -> {
            OperatorTasks t = new OperatorTasks(2, 3);
            add(t, 1, facts(), facts(0, 1, 1, 2));
            add(t, 3, facts(0, 0), facts(1, 1));
            due("paired(0, 1, 1, 1)", t.paired(0, 1, 1, 1), NONE);
            due("paired(1, 1, 0, 1)", t.paired(1, 1, 0, 1), NONE);
            due("single(0, 1)", t.single(0, 1), 1);
            due("single(1, 1)", t.single(1, 1), 3);
            t.effect(0, 1, 0);
            due("paired(0, 1, 1, 1), other value 0", t.paired(0, 1, 1, 1), NONE);
            t.effect(0, 1, 1);
            due("paired(0, 1, 1, 1), the same value", t.paired(0, 1, 1, 1), 1);
        });
        of("operators one of whose effects is in the set: whichever fact it is", () -> {
            for (int n = 1; n <= 5; n++) {
                for (int d = 2; d <= 4; d++) {
                    dueEachBound(n, d);
                }
            }
        });
        of("(infinite if there is none)", () -> {
            OperatorTasks t = new OperatorTasks(2, 2);
            due("single(0, 1) without operators", t.single(0, 1), NONE);
            due("paired(0, 1, 1, 0) without operators", t.paired(0, 1, 1, 0), NONE);
            add(t, 1, facts(), facts(0, 0));
            due("single(0, 1)", t.single(0, 1), NONE);
            due("paired(0, 1, 1, 0)", t.paired(0, 1, 1, 0), NONE);
            due("paired(0, 1, 0, 1)", t.paired(0, 1, 0, 1), NONE);
        });
        of("its cost plus the greatest bound: of an empty rest it is 0", () -> {
            OperatorTasks t = new OperatorTasks(2, 2);
            add(t, 8, facts(), facts(0, 1, 1, 1));
            due("single(0, 1)", t.single(0, 1), 8);
            due("paired(0, 1, 1, 1)", t.paired(0, 1, 1, 1), 8);
            due("paired(1, 1, 1, 1)", t.paired(1, 1, 1, 1), 8);
        });
        of("a set of at most M facts out of the rest: one with M = 1", () -> {
            OperatorTasks t = threeNeeds();
            due("single(3, 1)", t.single(3, 1), 5);
        });
        of("a set of at most M facts out of the rest: two with M = 2, not three", () -> {
            OperatorTasks t = threeNeeds();
            due("paired(3, 1, 3, 1)", t.paired(3, 1, 3, 1), 8);
            t.goal(3, 1);
            due("cost()", t.cost(), 10);
        });
        of("a set of at most M facts out of the rest: with M = 2 also one alone", () -> {
            OperatorTasks t = new OperatorTasks(2, 2);
            add(t, 2, facts(), facts(0, 1));
            add(t, 1, facts(0, 1), facts(1, 1));
            due("paired(1, 1, 1, 1)", t.paired(1, 1, 1, 1), 3);
        });
        of("the rest: its needs and the facts of the set that are no effects of it", () -> {
            OperatorTasks t = new OperatorTasks(3, 2);
            add(t, 2, facts(), facts(0, 1));
            add(t, 5, facts(), facts(1, 1));
            add(t, 1, facts(0, 1), facts(2, 1));
            due("paired(0, 1, 1, 1)", t.paired(0, 1, 1, 1), 7);
            due("paired(2, 1, 1, 1)", t.paired(2, 1, 1, 1), 8);
            due("paired(1, 1, 2, 1)", t.paired(1, 1, 2, 1), 8);
            due("paired(2, 1, 0, 1)", t.paired(2, 1, 0, 1), 3);
            add(t, 9, facts(0, 1, 1, 1), facts(0, 0, 1, 0, 2, 1));
            due("paired(0, 0, 2, 1)", t.paired(0, 0, 2, 1), 16);
            due("paired(1, 0, 2, 1)", t.paired(1, 0, 2, 1), 3);
        });
        of("(where the rest has two values of a variable, this is infinite)", () -> {
            OperatorTasks t = new OperatorTasks(2, 3);
            add(t, 1, facts(0, 0, 1, 0), facts(0, 1));
            add(t, 1, facts(0, 0, 1, 0), facts(1, 1));
            due("paired(0, 1, 1, 1)", t.paired(0, 1, 1, 1), NONE);
            due("paired(1, 1, 0, 1)", t.paired(1, 1, 0, 1), NONE);
            due("single(0, 1)", t.single(0, 1), 1);
            due("single(1, 1)", t.single(1, 1), 1);
            t.need(1, 0, -1);
            due("paired(0, 1, 1, 1) once one needs less", t.paired(0, 1, 1, 1), 2);
        });
        of("(two values of a variable, also for M = 1: a need beside its own other value)", () -> {
            // With M = 1 the set is one fact, which is an effect, so the rest is the needs alone
            // and a need of another value of the same variable is no second value.
            OperatorTasks t = new OperatorTasks(1, 3);
            add(t, 1, facts(0, 0), facts(0, 1));
            add(t, 1, facts(0, 1), facts(0, 2));
            due("single(0, 2)", t.single(0, 2), 2);
            due("paired(0, 2, 0, 2)", t.paired(0, 2, 0, 2), 2);
        });
        of("bounds are the greatest numbers: with M = 1 what only brings about itself is infinite", () -> {
            OperatorTasks t = circles();
            due("single(0, 1)", t.single(0, 1), NONE);
            due("single(0, 2)", t.single(0, 2), NONE);
            due("single(0, 3)", t.single(0, 3), NONE);
            add(t, 6, facts(0, 0), facts(0, 1));
            due("single(0, 1) with a way in", t.single(0, 1), 6);
            due("single(0, 2) with a way in", t.single(0, 2), 6);
            due("single(0, 3) with a way in", t.single(0, 3), NONE);
        });
        of("bounds are the greatest numbers: with M = 2 what only brings about itself is infinite", () -> {
            OperatorTasks t = circles();
            due("paired(0, 1, 1, 0)", t.paired(0, 1, 1, 0), NONE);
            due("paired(0, 2, 0, 2)", t.paired(0, 2, 0, 2), NONE);
            due("paired(0, 3, 0, 3)", t.paired(0, 3, 0, 3), NONE);
            add(t, 6, facts(0, 0), facts(0, 1));
            due("paired(0, 1, 1, 0) with a way in", t.paired(0, 1, 1, 0), 6);
            due("paired(0, 2, 0, 2) with a way in", t.paired(0, 2, 0, 2), 6);
            due("paired(0, 3, 1, 0) with a way in", t.paired(0, 3, 1, 0), NONE);
        });
        of("bounds are the greatest numbers: a long row of facts is followed to its end", () -> {
            OperatorTasks up = row(true);
            due("single(4, 2)", up.single(4, 2), 10);
            due("paired(4, 2, 4, 2)", up.paired(4, 2, 4, 2), 10);
            OperatorTasks down = row(false);
            due("single(0, 1)", down.single(0, 1), 10);
            due("paired(0, 1, 0, 1)", down.paired(0, 1, 0, 1), 10);
        });
    }

    /** The last value of each variable is brought about, that of variable v at cost v + 1. */
    private static void dueEachBound(int n, int d) {
        OperatorTasks t = new OperatorTasks(n, d);
        for (int v = 0; v < n; v++) {
            add(t, v + 1, facts(v, 0), facts(v, d - 1));
        }
        for (int v = 0; v < n; v++) {
            due("single(v, D - 1)", t.single(v, d - 1), v + 1);
            for (int u = 0; u < n; u++) {
                due("paired(v, D - 1, u, D - 1)", t.paired(v, d - 1, u, d - 1),
                        u == v ? v + 1 : v + u + 2);
                due("paired(v, D - 1, u, 0)", t.paired(v, d - 1, u, 0), u == v ? NONE : v + 1);
                due("paired(u, 0, v, D - 1)", t.paired(u, 0, v, d - 1), u == v ? NONE : v + 1);
            }
        }
    }

    /** Facts that cost 2, 3 and 4, and one that needs them all and costs 1 more. */
    private static OperatorTasks threeNeeds() {
        OperatorTasks t = new OperatorTasks(4, 2);
        add(t, 2, facts(), facts(0, 1));
        add(t, 3, facts(), facts(1, 1));
        add(t, 4, facts(), facts(2, 1));
        add(t, 1, all(3, 1), facts(3, 1));
        return t;
    }

    private static OperatorTasks circles() {
        OperatorTasks t = new OperatorTasks(2, 4);
        add(t, 0, facts(0, 1), facts(0, 2));
        add(t, 0, facts(0, 2), facts(0, 1));
        add(t, 0, facts(0, 3), facts(0, 3));
        return t;
    }

    /**
     * The ten facts that the begin has not, from (0, 1) up to (4, 2) or from there down, each by
     * an operator of cost 1 with the fact before it as its need. The last has the first operator.
     */
    private static OperatorTasks row(boolean up) {
        OperatorTasks t = new OperatorTasks(5, 3);
        for (int o = 0; o < 10; o++) {
            int place = up ? 9 - o : o;
            int from = up ? place - 1 : place + 1;
            int[] needs = o == 9 ? facts() : facts(from / 2, from % 2 + 1);
            add(t, 1, needs, facts(place / 2, place % 2 + 1));
        }
        return t;
    }

    // Terms: relaxed plans

    private static void relaxedPlans() {
        of("a relaxed plan: each has only needs that the begin has", () -> {
            OperatorTasks t = new OperatorTasks(2, 2);
            add(t, 3, facts(0, 0, 1, 1), facts(0, 1));
            t.goal(0, 1);
            due("relaxed() where one need lacks", t.relaxed(), NONE);
            t.begin(1, 1);
            due("relaxed()", t.relaxed(), 3);
        });
        of("a relaxed plan: each has only needs that the begin has, whichever fact it is", () -> {
            for (int v = 0; v < 5; v++) {
                for (int x = 0; x < 4; x++) {
                    int u = (v + 1) % 5;
                    OperatorTasks t = new OperatorTasks(5, 4);
                    start(t, all(5, (x + 1) % 4));
                    add(t, 5, facts(), facts(v, x));
                    add(t, 1, facts(v, x), facts(u, x));
                    t.goal(u, x);
                    due("relaxed()", t.relaxed(), 6);
                    t.begin(v, x);
                    due("relaxed() where the begin has the need", t.relaxed(), 1);
                }
            }
        });
        of("or that are effects of operators before it in the list: not of itself", () -> {
            OperatorTasks t = new OperatorTasks(2, 2);
            add(t, 0, facts(1, 1), facts(0, 1, 1, 1));
            t.goal(0, 1);
            due("relaxed()", t.relaxed(), NONE);
        });
        of("or that are effects of operators before it in the list: not of each other", () -> {
            OperatorTasks t = new OperatorTasks(2, 2);
            add(t, 0, facts(1, 1), facts(0, 1));
            add(t, 0, facts(0, 1), facts(1, 1));
            aim(t, all(2, 1));
            due("relaxed()", t.relaxed(), NONE);
            add(t, 4, facts(), facts(1, 1));
            due("relaxed() with a way in", t.relaxed(), 4);
        });
        of("or that are effects of operators before it in the list: against the numbers", () -> {
            OperatorTasks up = row(true);
            up.goal(4, 2);
            due("relaxed()", up.relaxed(), 10);
            OperatorTasks down = row(false);
            down.goal(0, 1);
            due("relaxed()", down.relaxed(), 10);
        });
        of("the begin's facts stay, whatever the effects are", () -> {
            OperatorTasks t = new OperatorTasks(2, 2);
            add(t, 1, facts(), facts(0, 1));
            add(t, 1, facts(0, 0), facts(1, 1));
            aim(t, 0, 1, 1, 1);
            due("relaxed()", t.relaxed(), 2);
            add(t, 0, facts(0, 1), facts(0, 0));
            aim(t, 0, 0, 1, 1);
            due("relaxed() where the goal is in the begin and in an effect", t.relaxed(), 1);
        });
        of("and so have the goal's facts, of all operators in it", () -> {
            OperatorTasks t = new OperatorTasks(3, 3);
            add(t, 2, facts(), facts(0, 1));
            add(t, 3, facts(), facts(0, 2, 1, 1));
            aim(t, 0, 1, 1, 1, 2, 0);
            due("relaxed()", t.relaxed(), 5);
            t.goal(2, 1);
            due("relaxed() where one goal's fact lacks", t.relaxed(), NONE);
        });
    }

    // Terms: wrong arguments

    private static void wrongArguments() {
        of("in all calls with an operator o, one that there is not answers BAD_ARG (or false)", () -> {
            for (int count = 0; count <= 10; count++) {
                OperatorTasks t = withOperators(count);
                for (int o = count; o <= 12; o++) {
                    dueNoOperator(t, o);
                }
                dueNoOperator(t, -1);
                for (int o : FAR_OFF) {
                    dueNoOperator(t, o);
                }
            }
        });
        of("with a variable v, one not 0 to N - 1", () -> {
            for (int n = 1; n <= 5; n++) {
                for (int v = n; v <= 10; v++) {
                    dueNoVariable(n, v);
                }
                dueNoVariable(n, -1);
                for (int v : FAR_OFF) {
                    dueNoVariable(n, v);
                }
            }
        });
        of("so does a value x not 0 to D - 1, where -1 is not allowed", () -> {
            for (int d = 2; d <= 4; d++) {
                for (int x = d; x <= 10; x++) {
                    dueNoValue(d, x);
                }
                dueNoValue(d, -1);
                for (int x : FAR_OFF) {
                    dueNoValue(d, x);
                }
            }
        });
        of("before anything else: also where there is no plan, no operator and an empty goal", () -> {
            OperatorTasks t = new OperatorTasks(2, 2);
            due("single(2, 0)", t.single(2, 0), BAD);
            due("paired(0, 0, 2, 0)", t.paired(0, 0, 2, 0), BAD);
            due("paired(0, 0, 0, 2)", t.paired(0, 0, 0, 2), BAD);
            due("need(0, 0, -1)", t.need(0, 0, -1), BAD);
            due("effect(0, 0, -1)", t.effect(0, 0, -1), BAD);
            t.goal(0, 1);
            due("single(2, 0) without a plan", t.single(2, 0), BAD);
            due("single(0, 2) without a plan", t.single(0, 2), BAD);
            due("paired(2, 0, 0, 1) without a plan", t.paired(2, 0, 0, 1), BAD);
            due("paired(0, 1, 0, -1) without a plan", t.paired(0, 1, 0, -1), BAD);
        });
        of("before anything else: also where more than one argument is wrong", () -> {
            OperatorTasks t = withOperators(10);
            due("need(10, 9, 9)", t.need(10, 9, 9), BAD);
            due("need(0, 9, 9)", t.need(0, 9, 9), BAD);
            due("effect(-1, -1, -2)", t.effect(-1, -1, -2), BAD);
            due("begin(-1, -1)", t.begin(-1, -1), BAD);
            due("goal(9, 9)", t.goal(9, 9), BAD);
            due("single(-1, -1)", t.single(-1, -1), BAD);
            due("paired(9, 9, 9, 9)", t.paired(9, 9, 9, 9), BAD);
            due("paired(9, 0, 9, 0)", t.paired(9, 0, 9, 0), BAD);
            due("paired(0, 9, 0, 9)", t.paired(0, 9, 0, 9), BAD);
            due("apart(9, 9, 9, 9)", t.apart(9, 9, 9, 9), false);
            due("apart(0, 9, 0, 9)", t.apart(0, 9, 0, 9), false);
            due("passes(9, 9)", t.passes(9, 9), false);
        });
        of("no call ever throws", () -> {
            for (int a : FAR_OFF) {
                for (int b : FAR_OFF) {
                    OperatorTasks t = new OperatorTasks(a, b);
                    callAll(t, a, b);
                    t.operator(0);
                    callAll(t, a, b);
                    callAll(counter(0, 9), a, b);
                }
            }
        });
    }

    private static OperatorTasks withOperators(int count) {
        OperatorTasks t = new OperatorTasks(2, 2);
        t.goal(0, 1);
        for (int o = 0; o < count; o++) {
            add(t, o, facts(0, 0), facts(0, 1));
        }
        return t;
    }

    private static void dueNoOperator(OperatorTasks t, int o) {
        due("need(" + o + ", 0, 0)", t.need(o, 0, 0), BAD);
        due("need(" + o + ", 1, -1)", t.need(o, 1, -1), BAD);
        due("effect(" + o + ", 0, 0)", t.effect(o, 0, 0), BAD);
        due("effect(" + o + ", 1, -1)", t.effect(o, 1, -1), BAD);
        due("needed(" + o + ")", t.needed(o), false);
    }

    /** Where the wrong variable counted as one that is there, some answer would be another. */
    private static void dueNoVariable(int n, int v) {
        OperatorTasks t = new OperatorTasks(n, 3);
        add(t, 2, facts(0, 0), all(n, 1));
        start(t, all(n, 0));
        aim(t, all(n, 1));
        for (int x = 0; x < 3; x++) {
            String fact = v + ", " + x;
            due("begin(" + fact + ")", t.begin(v, x), BAD);
            due("need(0, " + fact + ")", t.need(0, v, x), BAD);
            due("effect(0, " + fact + ")", t.effect(0, v, x), BAD);
            due("goal(" + fact + ")", t.goal(v, x), BAD);
            due("single(" + fact + ")", t.single(v, x), BAD);
            due("paired(" + fact + ", 0, 0)", t.paired(v, x, 0, 0), BAD);
            due("paired(0, 0, " + fact + ")", t.paired(0, 0, v, x), BAD);
            due("apart(" + fact + ", 0, 0)", t.apart(v, x, 0, 0), false);
            due("apart(0, 2, " + fact + ")", t.apart(0, 2, v, x), false);
            due("passes(" + fact + ")", t.passes(v, x), false);
        }
        due("need(0, " + v + ", -1)", t.need(0, v, -1), BAD);
        due("effect(0, " + v + ", -1)", t.effect(0, v, -1), BAD);
        due("goal(" + v + ", -1)", t.goal(v, -1), BAD);
        due("cost()", t.cost(), 2);
        due("reached()", t.reached(), 2);
    }

    private static void dueNoValue(int d, int x) {
        OperatorTasks t = new OperatorTasks(2, d);
        add(t, 2, facts(0, 0), facts(0, 1, 1, 1));
        aim(t, 0, 1, 1, 1);
        for (int v = 0; v < 2; v++) {
            String fact = v + ", " + x;
            due("begin(" + fact + ")", t.begin(v, x), BAD);
            due("single(" + fact + ")", t.single(v, x), BAD);
            due("passes(" + fact + ")", t.passes(v, x), false);
            for (int u = 0; u < 2; u++) {
                due("paired(" + fact + ", " + u + ", 0)", t.paired(v, x, u, 0), BAD);
                due("paired(" + u + ", 0, " + fact + ")", t.paired(u, 0, v, x), BAD);
                due("paired(" + u + ", 1, " + fact + ")", t.paired(u, 1, v, x), BAD);
                due("apart(" + fact + ", " + u + ", 0)", t.apart(v, x, u, 0), false);
                due("apart(" + u + ", 0, " + fact + ")", t.apart(u, 0, v, x), false);
                due("apart(" + u + ", 1, " + fact + ")", t.apart(u, 1, v, x), false);
            }
        }
        due("cost()", t.cost(), 2);
        due("reached()", t.reached(), 2);
        due("begin(0, 0)", t.begin(0, 0), 0);
        due("begin(1, 0)", t.begin(1, 0), 0);
    }

    /** Every call with far-off numbers in every place; all are refused, but for a step of NONE. */
    private static void callAll(OperatorTasks t, int a, int b) {
        due("operator(" + a + ")", t.operator(a), BAD);
        due("need", t.need(a, b, a), BAD);
        due("need", t.need(0, a, b), BAD);
        due("need", t.need(a, 0, b), BAD);
        due("need", t.need(a, b, 0), BAD);
        due("effect", t.effect(a, b, a), BAD);
        due("effect", t.effect(0, a, b), BAD);
        due("effect", t.effect(a, 0, b), BAD);
        due("effect", t.effect(a, b, 0), BAD);
        due("begin", t.begin(a, b), BAD);
        due("goal", t.goal(a, b), BAD);
        due("apart", t.apart(a, b, b, a), false);
        due("apart", t.apart(0, 0, a, b), false);
        due("passes", t.passes(a, b), false);
        due("needed", t.needed(a), false);
        due("single", t.single(a, b), BAD);
        due("paired", t.paired(a, b, b, a), BAD);
        due("paired", t.paired(0, 0, a, b), BAD);
        if (a < 0 || a > 241) {
            due("step(" + a + ")", t.step(a), NONE);
        }
    }

    // Terms: refused calls

    /** One call with the answer that is due. */
    private record Call(String name, ToIntFunction<OperatorTasks> call, int want) { }

    private static void refusals() {
        of("a refused call answers the code named and changes nothing", () -> {
            List<Call> refused = new ArrayList<>();
            for (int c : new int[] {MIN, -1, 10, 256, MAX}) {
                refused.add(new Call("operator(" + c + ")", t -> t.operator(c), BAD));
            }
            for (int c = 0; c <= 9; c++) {
                int cost = c;
                refused.add(new Call("operator(" + c + ")", t -> t.operator(cost), FULL));
            }
            for (int o : new int[] {MIN, -858993459, -1, 10, 256, 858993460, MAX}) {
                for (int x = -1; x < 3; x++) {
                    int y = x;
                    refused.add(new Call("need(" + o + ", 1, " + x + ")", t -> t.need(o, 1, y), BAD));
                    refused.add(new Call("effect(" + o + ", 1, " + x + ")", t -> t.effect(o, 1, y), BAD));
                }
                refused.add(new Call("needed(" + o + ")", t -> t.needed(o) ? 1 : 0, 0));
            }
            for (int v : new int[] {MIN, -1, 2, 3, 5, 16, 256, 1 << 30, MAX}) {
                for (int x = 0; x < 3; x++) {
                    refuseFact(refused, v, x);
                    refuseSetting(refused, v, x);
                }
                refuseSetting(refused, v, -1);
            }
            for (int x : new int[] {MIN, -2, 3, 4, 255, 256, MAX}) {
                refuseFact(refused, 0, x);
                refuseFact(refused, 1, x);
                refuseSetting(refused, 0, x);
                refuseSetting(refused, 1, x);
            }
            refuseFact(refused, 0, -1);
            refuseFact(refused, 1, -1);
            dueUnchanged(refused);
        });
        of("a question is no change", () -> {
            List<Call> questions = new ArrayList<>();
            OperatorTasks twin = fullTask();
            String task = answers(twin);
            due("the task has answers", task.isEmpty(), false);
            questions.add(new Call("cost()", OperatorTasks::cost, 9));
            questions.add(new Call("length()", OperatorTasks::length, 3));
            questions.add(new Call("step(2)", t -> t.step(2), 2));
            questions.add(new Call("step(3)", t -> t.step(3), NONE));
            questions.add(new Call("reached()", OperatorTasks::reached, 9));
            questions.add(new Call("dead()", OperatorTasks::dead, 0));
            questions.add(new Call("returning()", OperatorTasks::returning, 9));
            questions.add(new Call("apart(0, 2, 1, 2)", t -> t.apart(0, 2, 1, 2) ? 1 : 0, 0));
            questions.add(new Call("passes(0, 1)", t -> t.passes(0, 1) ? 1 : 0, 1));
            questions.add(new Call("needed(1)", t -> t.needed(1) ? 1 : 0, 1));
            questions.add(new Call("single(0, 2)", t -> t.single(0, 2), 5));
            questions.add(new Call("singleGoal()", OperatorTasks::singleGoal, 5));
            questions.add(new Call("paired(0, 2, 1, 1)", t -> t.paired(0, 2, 1, 1), 9));
            questions.add(new Call("pairedGoal()", OperatorTasks::pairedGoal, 9));
            questions.add(new Call("relaxed()", OperatorTasks::relaxed, 9));
            dueUnchanged(questions);
        });
        of("a refused call changes nothing: a tenth operator can still be added after it", () -> {
            OperatorTasks t = withOperators(9);
            due("operator(10)", t.operator(10), BAD);
            due("operator(-1)", t.operator(-1), BAD);
            due("operator(9)", t.operator(9), 9);
            due("operator(9)", t.operator(9), FULL);
        });
        of("one object's calls change no other object", () -> {
            OperatorTasks one = fullTask();
            OperatorTasks other = new OperatorTasks(2, 3);
            due("cost() of the other", other.cost(), 0);
            due("operator(1) of the other", other.operator(1), 0);
            due("begin(0, 2) of the other", other.begin(0, 2), 0);
            due("goal(1, 2) of the other", other.goal(1, 2), -1);
            due("cost() of the other", other.cost(), NONE);
            due("cost()", one.cost(), 9);
        });
    }

    private static void refuseFact(List<Call> refused, int v, int x) {
        String fact = v + ", " + x;
        refused.add(new Call("begin(" + fact + ")", t -> t.begin(v, x), BAD));
        refused.add(new Call("single(" + fact + ")", t -> t.single(v, x), BAD));
        refused.add(new Call("passes(" + fact + ")", t -> t.passes(v, x) ? 1 : 0, 0));
        refused.add(new Call("paired(" + fact + ", 0, 0)", t -> t.paired(v, x, 0, 0), BAD));
        refused.add(new Call("paired(0, 0, " + fact + ")", t -> t.paired(0, 0, v, x), BAD));
        refused.add(new Call("apart(" + fact + ", 0, 0)", t -> t.apart(v, x, 0, 0) ? 1 : 0, 0));
        refused.add(new Call("apart(0, 0, " + fact + ")", t -> t.apart(0, 0, v, x) ? 1 : 0, 0));
    }

    private static void refuseSetting(List<Call> refused, int v, int x) {
        String fact = v + ", " + x;
        refused.add(new Call("need(1, " + fact + ")", t -> t.need(1, v, x), BAD));
        refused.add(new Call("effect(1, " + fact + ")", t -> t.effect(1, v, x), BAD));
        refused.add(new Call("goal(" + fact + ")", t -> t.goal(v, x), BAD));
    }

    /** Each call on an object of its own, whose answers then are those of a twin without it. */
    private static void dueUnchanged(List<Call> calls) {
        OperatorTasks twin = fullTask();
        String before = answers(twin);
        for (Call c : calls) {
            OperatorTasks t = fullTask();
            due(c.name, c.call.applyAsInt(t), c.want);
            due("all answers after " + c.name + " are as without it", answers(t).equals(before), true);
        }
    }

    /** Two variables that go up and down 0, 1, 2 (one costs 2 and 3, one 4), all ten operators. */
    private static OperatorTasks fullTask() {
        OperatorTasks t = new OperatorTasks(2, 3);
        add(t, 2, facts(0, 0), facts(0, 1));
        add(t, 3, facts(0, 1), facts(0, 2));
        add(t, 4, facts(1, 0), facts(1, 1));
        add(t, 4, facts(1, 1), facts(1, 2));
        add(t, 1, facts(0, 2), facts(0, 1));
        add(t, 1, facts(0, 1), facts(0, 0));
        add(t, 1, facts(1, 2), facts(1, 1));
        add(t, 1, facts(1, 1), facts(1, 0));
        add(t, 9, facts(), facts(0, 0, 1, 0));
        add(t, 9, facts(0, 2, 1, 2), facts());
        aim(t, 0, 2, 1, 1);
        return t;
    }

    /** All that can be asked of a task of two variables, three values and ten operators. */
    private static String answers(OperatorTasks t) {
        StringBuilder s = new StringBuilder();
        s.append(t.cost()).append(' ').append(t.length()).append(' ');
        for (int i = -1; i < 5; i++) {
            s.append(t.step(i)).append(' ');
        }
        s.append(t.reached()).append(' ').append(t.dead()).append(' ').append(t.returning());
        s.append(' ').append(t.singleGoal()).append(' ').append(t.pairedGoal());
        s.append(' ').append(t.relaxed()).append(' ');
        for (int f = 0; f < 6; f++) {
            s.append(t.passes(f / 3, f % 3)).append(' ').append(t.single(f / 3, f % 3)).append(' ');
            for (int g = 0; g < 6; g++) {
                s.append(t.apart(f / 3, f % 3, g / 3, g % 3)).append(' ');
                s.append(t.paired(f / 3, f % 3, g / 3, g % 3)).append(' ');
            }
        }
        for (int o = 0; o < 10; o++) {
            s.append(t.needed(o)).append(' ');
            for (int v = 0; v < 2; v++) {
                int need = t.need(o, v, -1);
                int effect = t.effect(o, v, -1);
                s.append(need).append(' ').append(effect).append(' ');
                t.need(o, v, need);
                t.effect(o, v, effect);
            }
        }
        for (int v = 0; v < 2; v++) {
            s.append(t.begin(v, 0)).append(' ').append(t.goal(v, -1)).append(' ');
        }
        return s.append(t.operator(0)).toString();
    }

    // Promise 1

    private static void promise1() {
        of("1: no operator", () -> {
            OperatorTasks t = new OperatorTasks(5, 4);
            dueNoOperator(t, 0);
            due("reached()", t.reached(), 1);
            due("operator(0)", t.operator(0), 0);
        });
        of("1: all variables are 0 in the begin", () -> {
            for (int n = 1; n <= 5; n++) {
                OperatorTasks t = new OperatorTasks(n, 4);
                for (int v = 0; v < n; v++) {
                    due("passes(v, 0)", t.passes(v, 0), true);
                    due("single(v, 0)", t.single(v, 0), 0);
                    due("begin(v, 3)", t.begin(v, 3), 0);
                }
            }
        });
        of("1: the goal has no value", () -> {
            for (int n = 1; n <= 5; n++) {
                OperatorTasks t = new OperatorTasks(n, 4);
                start(t, all(n, 3));
                due("cost()", t.cost(), 0);
                for (int v = 0; v < n; v++) {
                    due("goal(v, 0)", t.goal(v, 0), -1);
                }
            }
        });
        of("1: N below 1 becomes 1", () -> {
            for (int n : new int[] {0, -1, -2, -254, -65533, MIN, MIN + 2}) {
                dueSize(n, 3, 1, 3);
            }
        });
        of("1: N above 5 becomes 5", () -> {
            for (int n : new int[] {6, 7, 8, 258, 65538, MAX, MAX - 1}) {
                dueSize(n, 3, 5, 3);
            }
        });
        of("1: D below 2 becomes 2", () -> {
            for (int d : new int[] {1, 0, -1, -253, -65533, MIN, MIN + 3}) {
                dueSize(3, d, 3, 2);
            }
        });
        of("1: D above 4 becomes 4", () -> {
            for (int d : new int[] {5, 6, 7, 258, 65538, MAX, MAX - 1}) {
                dueSize(3, d, 3, 4);
            }
        });
        of("1: both out of their ranges", () -> {
            dueSize(MIN, MIN, 1, 2);
            dueSize(MIN, MAX, 1, 4);
            dueSize(MAX, MIN, 5, 2);
            dueSize(MAX, MAX, 5, 4);
            dueSize(0, 1, 1, 2);
            dueSize(6, 5, 5, 4);
        });
        of("1: N and D in their ranges stay", () -> {
            for (int n = 1; n <= 5; n++) {
                for (int d = 2; d <= 4; d++) {
                    dueSize(n, d, n, d);
                }
            }
        });
    }

    private static void dueSize(int variables, int values, int n, int d) {
        OperatorTasks t = new OperatorTasks(variables, values);
        String made = "after new (" + variables + ", " + values + ") ";
        due(made + "operator(0)", t.operator(0), 0);
        for (int v = 0; v < 8; v++) {
            for (int x = 0; x < 8; x++) {
                boolean fact = v < n && x < d;
                due(made + "single", t.single(v, x), !fact ? BAD : x == 0 ? 0 : NONE);
                due(made + "apart", t.apart(v, x, v, x), fact && x != 0);
            }
            due(made + "begin", t.begin(v, 0), v < n ? 0 : BAD);
            due(made + "begin", t.begin(v, d), BAD);
            due(made + "need", t.need(0, v, d - 1), v < n ? -1 : BAD);
            due(made + "need again", t.need(0, v, d), BAD);
            due(made + "need once more", t.need(0, v, -1), v < n ? d - 1 : BAD);
            due(made + "effect", t.effect(0, v, d - 1), v < n ? -1 : BAD);
            due(made + "effect again", t.effect(0, v, d), BAD);
            due(made + "goal", t.goal(v, d - 1), v < n ? -1 : BAD);
            due(made + "goal again", t.goal(v, d), BAD);
        }
        due(made + "reached()", t.reached(), 2);
        due(made + "length()", t.length(), 1);
    }

    // Promise 2

    private static void promise2() {
        of("2: with this cost and neither needs nor effects", () -> {
            OperatorTasks t = new OperatorTasks(5, 4);
            for (int o = 0; o < 10; o++) {
                due("operator", t.operator(9), o);
                for (int v = 0; v < 5; v++) {
                    due("need(o, v, 3)", t.need(o, v, 3), -1);
                    due("effect(o, v, 3)", t.effect(o, v, 3), -1);
                }
            }
        });
        of("2: cost not 0 to 9 answers BAD_ARG", () -> {
            OperatorTasks t = new OperatorTasks(1, 2);
            for (int c : new int[] {-1, 10, 12, 13, 14, -5, -6, -7, -8, -9, -10}) {
                due("operator(" + c + ")", t.operator(c), BAD);
            }
            for (int c : FAR_OFF) {
                due("operator(" + c + ")", t.operator(c), BAD);
            }
            due("operator(0)", t.operator(0), 0);
        });
        of("2: FULL", () -> {
            OperatorTasks t = withOperators(10);
            for (int c = 0; c <= 9; c++) {
                due("operator(" + c + ")", t.operator(c), FULL);
            }
            due("cost()", t.cost(), 0);
            due("step(0)", t.step(0), 0);
        });
        of("2: tested in this order: a wrong cost before FULL", () -> {
            OperatorTasks t = withOperators(10);
            due("operator(-1)", t.operator(-1), BAD);
            due("operator(10)", t.operator(10), BAD);
            for (int c : FAR_OFF) {
                due("operator(" + c + ")", t.operator(c), BAD);
            }
        });
        of("2: otherwise its number", () -> {
            OperatorTasks t = new OperatorTasks(1, 2);
            for (int o = 0; o < 10; o++) {
                due("operator(10)", t.operator(10), BAD);
                due("operator(" + (9 - o) + ")", t.operator(9 - o), o);
            }
        });
    }

    // Promises 3 to 6

    private static void promises3And4() {
        of("3: otherwise what it needed, or -1", () -> {
            OperatorTasks t = new OperatorTasks(5, 4);
            addTen(t);
            for (int o = 0; o < 10; o++) {
                for (int v = 0; v < 5; v++) {
                    due("need, was none", t.need(o, v, (o + v) % 4), -1);
                }
            }
            for (int o = 0; o < 10; o++) {
                for (int v = 0; v < 5; v++) {
                    due("need, was a value", t.need(o, v, -1), (o + v) % 4);
                    due("need, was none again", t.need(o, v, 3), -1);
                    due("need, the same once more", t.need(o, v, 3), 3);
                    due("effect, was none", t.effect(o, v, -1), -1);
                }
            }
        });
        of("3: or none if x is -1", () -> {
            OperatorTasks t = new OperatorTasks(2, 2);
            add(t, 6, facts(0, 1, 1, 1), facts(0, 1));
            t.goal(0, 1);
            due("cost()", t.cost(), NONE);
            due("need(0, 0, -1)", t.need(0, 0, -1), 1);
            due("cost() with one need", t.cost(), NONE);
            due("need(0, 1, -1)", t.need(0, 1, -1), 1);
            due("cost() without needs", t.cost(), 6);
            due("single(0, 1) without needs", t.single(0, 1), 6);
        });
        of("4: otherwise what it was, or -1", () -> {
            OperatorTasks t = new OperatorTasks(5, 4);
            addTen(t);
            for (int o = 0; o < 10; o++) {
                for (int v = 0; v < 5; v++) {
                    due("effect, was none", t.effect(o, v, (o + v) % 4), -1);
                }
            }
            for (int o = 0; o < 10; o++) {
                for (int v = 0; v < 5; v++) {
                    due("effect, was a value", t.effect(o, v, -1), (o + v) % 4);
                    due("effect, was none again", t.effect(o, v, 3), -1);
                    due("effect, the same once more", t.effect(o, v, 3), 3);
                    due("need, was none", t.need(o, v, -1), -1);
                }
            }
        });
        of("4: or none if x is -1", () -> {
            OperatorTasks t = new OperatorTasks(2, 2);
            add(t, 6, facts(), facts(0, 1, 1, 1));
            due("effect(0, 1, -1)", t.effect(0, 1, -1), 1);
            aim(t, 0, 1, 1, 0);
            due("cost() where variable 1 stays", t.cost(), 6);
            due("effect(0, 0, -1)", t.effect(0, 0, -1), 1);
            due("cost() where nothing changes", t.cost(), NONE);
            due("reached() where nothing changes", t.reached(), 1);
            due("relaxed() where nothing changes", t.relaxed(), NONE);
        });
    }

    private static void addTen(OperatorTasks t) {
        for (int o = 0; o < 10; o++) {
            t.operator(0);
        }
    }

    private static void promises5And6() {
        of("5: otherwise what it was", () -> {
            OperatorTasks t = new OperatorTasks(5, 4);
            for (int v = 0; v < 5; v++) {
                due("begin, was 0", t.begin(v, v % 4), 0);
            }
            for (int v = 0; v < 5; v++) {
                due("begin, was a value", t.begin(v, 3), v % 4);
                due("begin, the same once more", t.begin(v, 3), 3);
                due("goal, had none", t.goal(v, 3), -1);
            }
            due("cost()", t.cost(), 0);
        });
        of("5: -1 is not allowed", () -> {
            OperatorTasks t = new OperatorTasks(2, 2);
            due("begin(0, 1)", t.begin(0, 1), 0);
            due("begin(0, -1)", t.begin(0, -1), BAD);
            due("begin(0, 0)", t.begin(0, 0), 1);
        });
        of("6: otherwise what it had, or -1", () -> {
            OperatorTasks t = new OperatorTasks(5, 4);
            for (int v = 0; v < 5; v++) {
                due("goal, had none", t.goal(v, v % 4), -1);
            }
            for (int v = 0; v < 5; v++) {
                due("goal, had a value", t.goal(v, -1), v % 4);
                due("goal, had none again", t.goal(v, -1), -1);
                due("goal, had none once more", t.goal(v, 3), -1);
                due("goal, the same once more", t.goal(v, 3), 3);
                due("begin, was 0", t.begin(v, 3), 0);
            }
            due("cost()", t.cost(), 0);
        });
        of("6: or none if x is -1", () -> {
            OperatorTasks t = new OperatorTasks(2, 2);
            aim(t, 0, 1, 1, 1);
            due("goal(0, -1)", t.goal(0, -1), 1);
            due("cost() with one fact", t.cost(), NONE);
            due("goal(1, -1)", t.goal(1, -1), 1);
            duePlan(t, 0);
            due("singleGoal()", t.singleGoal(), 0);
            due("pairedGoal()", t.pairedGoal(), 0);
            due("relaxed()", t.relaxed(), 0);
        });
    }

    // Promises 7 to 9

    private static void promises7To9() {
        of("7: NONE if there is none", () -> {
            OperatorTasks t = stuck();
            due("cost()", t.cost(), NONE);
        });
        of("7: the least cost: nothing for the empty plan and for operators of cost 0", () -> {
            OperatorTasks t = new OperatorTasks(1, 2);
            due("cost()", t.cost(), 0);
            add(t, 0, facts(), facts(0, 1));
            t.goal(0, 1);
            due("cost()", t.cost(), 0);
        });
        of("7: the least cost of a long plan", () -> {
            due("cost()", counter(9, 0).cost(), 1089);
            due("cost()", counter(0, 9).cost(), 1089);
            due("cost()", counter(0, 0).cost(), 0);
        });
        of("8: NONE if there is none", () -> {
            OperatorTasks t = stuck();
            due("length()", t.length(), NONE);
        });
        of("8: the number of operators: 0 for the empty plan", () -> {
            OperatorTasks t = new OperatorTasks(1, 2);
            due("length()", t.length(), 0);
        });
        of("8: the number of operators of a long plan, whatever it costs", () -> {
            due("length()", counter(9, 9).length(), 242);
            due("length()", counter(0, 0).length(), 242);
        });
        of("9: NONE if there is none: no plan", () -> {
            OperatorTasks t = stuck();
            for (int i = -2; i < 5; i++) {
                due("step(" + i + ")", t.step(i), NONE);
            }
        });
        of("9: NONE if there is none: an empty plan", () -> {
            OperatorTasks t = new OperatorTasks(1, 2);
            add(t, 0, facts(), facts(0, 1));
            for (int i = -2; i < 5; i++) {
                due("step(" + i + ")", t.step(i), NONE);
            }
        });
        of("9: NONE if there is none: before the first and after the last", () -> {
            OperatorTasks t = counter(1, 2);
            due("step(-1)", t.step(-1), NONE);
            due("step(0)", t.step(0), 0);
            due("step(241)", t.step(241), 1);
            due("step(242)", t.step(242), NONE);
            due("step(243)", t.step(243), NONE);
            for (int i : FAR_OFF) {
                boolean there = i >= 0 && i < 242;
                due("step(" + i + ")", t.step(i), there ? counterStep(i) : NONE);
            }
        });
        of("9: operator i of a long plan", () -> {
            OperatorTasks t = counter(3, 0);
            for (int i = 0; i < 242; i++) {
                due("step(" + i + ")", t.step(i), counterStep(i));
            }
        });
    }

    /** Two states are reached, and neither has the goal. */
    private static OperatorTasks stuck() {
        OperatorTasks t = new OperatorTasks(1, 3);
        add(t, 0, facts(0, 0), facts(0, 1));
        add(t, 0, facts(0, 1), facts(0, 0));
        t.goal(0, 2);
        return t;
    }

    // Promises 10 to 15

    private static void promises10To12() {
        of("10: the number of reached states: the begin alone", () -> {
            OperatorTasks t = new OperatorTasks(5, 4);
            start(t, all(5, 3));
            due("reached()", t.reached(), 1);
            addTen(t);
            due("reached() with operators that change nothing", t.reached(), 1);
        });
        of("10: the number of reached states: many", () -> {
            due("reached()", counter(0, 0).reached(), 243);
            due("reached()", crowd().reached(), 620);
        });
        of("11: the number of reached states that are dead: none", () -> {
            OperatorTasks t = counter(0, 0);
            due("dead()", t.dead(), 0);
            OperatorTasks empty = new OperatorTasks(1, 2);
            due("dead() of an empty goal", empty.dead(), 0);
        });
        of("11: the number of reached states that are dead: all", () -> {
            due("dead()", stuck().dead(), 2);
            OperatorTasks t = counter(0, 0);
            t.effect(9, 4, 1);
            due("dead()", t.dead(), 162);
        });
        of("11: the number of reached states that are dead: others do not count", () -> {
            OperatorTasks t = counter(0, 0);
            start(t, 4, 2);
            due("dead()", t.dead(), 0);
            t.goal(4, 1);
            due("dead()", t.dead(), 81);
            OperatorTasks crowd = crowd();
            aim(crowd, all(5, 0));
            due("dead() where only the begin is not", crowd.dead(), 619);
        });
        of("12: two facts in no reached state together: also if they are the same", () -> {
            OperatorTasks t = new OperatorTasks(1, 3);
            add(t, 0, facts(), facts(0, 1));
            due("apart(0, 0, 0, 0)", t.apart(0, 0, 0, 0), false);
            due("apart(0, 1, 0, 1)", t.apart(0, 1, 0, 1), false);
            due("apart(0, 2, 0, 2)", t.apart(0, 2, 0, 2), true);
        });
        of("12: two facts in no reached state together: always if of one variable", () -> {
            OperatorTasks t = new OperatorTasks(1, 3);
            add(t, 0, facts(), facts(0, 1));
            due("apart(0, 0, 0, 1)", t.apart(0, 0, 0, 1), true);
            due("apart(0, 1, 0, 0)", t.apart(0, 1, 0, 0), true);
        });
        of("12: two facts in no reached state together: each is reached without the other", () -> {
            OperatorTasks t = new OperatorTasks(2, 2);
            add(t, 0, facts(1, 0), facts(0, 1));
            add(t, 0, facts(0, 0), facts(1, 1));
            due("apart(0, 1, 1, 1)", t.apart(0, 1, 1, 1), true);
            due("apart(1, 1, 0, 1)", t.apart(1, 1, 0, 1), true);
            due("apart(0, 1, 1, 0)", t.apart(0, 1, 1, 0), false);
            due("apart(1, 1, 0, 0)", t.apart(1, 1, 0, 0), false);
        });
        of("12: two facts in no reached state together: only in the last state met", () -> {
            OperatorTasks t = counter(1, 1);
            due("apart(0, 2, 4, 2)", t.apart(0, 2, 4, 2), false);
            t.need(9, 4, 2);
            due("apart(3, 2, 4, 2) where it cannot be met", t.apart(3, 2, 4, 2), true);
        });
        of("12: in no reached state together: states of the task before a change do not count", () -> {
            OperatorTasks t = new OperatorTasks(1, 3);
            add(t, 0, facts(0, 0), facts(0, 1));
            due("apart(0, 1, 0, 1)", t.apart(0, 1, 0, 1), false);
            t.need(0, 0, 2);
            due("apart(0, 1, 0, 1) after the change", t.apart(0, 1, 0, 1), true);
            t.begin(0, 2);
            due("apart(0, 0, 0, 0) after a change of the begin", t.apart(0, 0, 0, 0), true);
            due("apart(0, 1, 0, 1) after a change of the begin", t.apart(0, 1, 0, 1), false);
        });
    }

    private static void promises13To15() {
        of("13: the begin counts", () -> {
            OperatorTasks t = new OperatorTasks(2, 2);
            add(t, 0, facts(), facts(0, 1));
            t.goal(0, 1);
            due("passes(0, 0)", t.passes(0, 0), true);
            due("passes(1, 0)", t.passes(1, 0), true);
            due("passes(1, 1)", t.passes(1, 1), false);
        });
        of("13: the last state counts", () -> {
            OperatorTasks t = new OperatorTasks(2, 2);
            add(t, 0, facts(), facts(0, 1, 1, 1));
            t.goal(0, 1);
            due("passes(0, 1)", t.passes(0, 1), true);
            due("passes(1, 1)", t.passes(1, 1), true);
        });
        of("13: every plan, not the best alone, nor one that goes on beyond a goal", () -> {
            OperatorTasks t = new OperatorTasks(1, 4);
            add(t, 0, facts(0, 0), facts(0, 1));
            add(t, 0, facts(0, 1), facts(0, 3));
            add(t, 0, facts(0, 3), facts(0, 2));
            add(t, 0, facts(0, 2), facts(0, 3));
            t.goal(0, 3);
            due("passes(0, 1)", t.passes(0, 1), true);
            due("passes(0, 2) beyond", t.passes(0, 2), false);
            add(t, 9, facts(0, 0), facts(0, 2));
            due("passes(0, 1) with a dear way round", t.passes(0, 1), false);
        });
        of("13: false if there is no plan", () -> {
            OperatorTasks t = stuck();
            for (int x = 0; x < 3; x++) {
                due("passes(0, " + x + ")", t.passes(0, x), false);
            }
        });
        of("14: every plan has operator o in it: none has where the empty one is a plan", () -> {
            OperatorTasks t = new OperatorTasks(1, 2);
            add(t, 0, facts(), facts(0, 1));
            due("needed(0)", t.needed(0), false);
            t.goal(0, 0);
            due("needed(0)", t.needed(0), false);
            t.goal(0, 1);
            due("needed(0)", t.needed(0), true);
        });
        of("14: every plan, not the best alone, nor one that goes on beyond a goal", () -> {
            OperatorTasks t = new OperatorTasks(1, 3);
            add(t, 0, facts(0, 0), facts(0, 1));
            add(t, 0, facts(0, 1), facts(0, 2));
            t.goal(0, 1);
            due("needed(0)", t.needed(0), true);
            due("needed(1) beyond", t.needed(1), false);
            add(t, 9, facts(), facts(0, 1));
            due("needed(0) with a dear one beside it", t.needed(0), false);
            due("needed(2)", t.needed(2), false);
        });
        of("14: false if there is no plan", () -> {
            OperatorTasks t = stuck();
            due("needed(0)", t.needed(0), false);
            due("needed(1)", t.needed(1), false);
        });
        of("15: from which the begin can be reached: at least itself", () -> {
            OperatorTasks t = new OperatorTasks(1, 2);
            due("returning()", t.returning(), 1);
            add(t, 0, facts(), facts(0, 1));
            due("returning() without a way back", t.returning(), 1);
            due("returning() of a long row", counter(0, 0).returning(), 1);
        });
        of("15: from which the begin can be reached: all", () -> {
            OperatorTasks t = counter(0, 0);
            t.need(8, 4, 2);
            t.effect(8, 4, 0);
            t.begin(4, 2);
            due("returning() where the row ends in a part of it", t.returning(), 1);
            for (int v = 0; v < 4; v++) {
                t.need(9, v, -1);
                t.effect(9, v, 0);
            }
            t.need(9, 4, -1);
            t.effect(9, 4, 2);
            due("returning() where one operator leads back", t.returning(), 162);
            t.goal(4, 1);
            due("returning() whatever the goal", t.returning(), 162);
        });
        of("15: from which the begin can be reached: also by states met before", () -> {
            OperatorTasks t = backward();
            t.effect(3, 0, 0);
            due("returning()", t.returning(), 3);
            t.need(2, 0, 3);
            due("returning() without the way back", t.returning(), 2);
            due("returning() from far", upAndDown(5).returning(), 32);
        });
        of("15: only reached states count", () -> {
            OperatorTasks t = new OperatorTasks(1, 3);
            add(t, 0, facts(0, 1), facts(0, 0));
            add(t, 0, facts(0, 2), facts(0, 0));
            due("returning()", t.returning(), 1);
        });
    }

    // Promises 16 to 19

    private static void promises16And17() {
        of("16: NONE if it is infinite", () -> {
            OperatorTasks t = stuck();
            due("single(0, 2)", t.single(0, 2), NONE);
            due("single(0, 1)", t.single(0, 1), 0);
            add(t, 4, facts(0, 2), facts(0, 2));
            due("single(0, 2) where it needs itself", t.single(0, 2), NONE);
        });
        of("16: the bound of a fact with M = 1, at its least and greatest", () -> {
            OperatorTasks t = counter(9, 9);
            for (int v = 0; v < 5; v++) {
                due("single(" + v + ", 0)", t.single(v, 0), 0);
                due("single(" + v + ", 1)", t.single(v, 1), 18 * v + 9);
                due("single(" + v + ", 2)", t.single(v, 2), 18 * v + 18);
            }
        });
        of("17: the greatest of the goal's facts, wherever it stands", () -> {
            for (int v = 0; v < 5; v++) {
                OperatorTasks t = new OperatorTasks(5, 2);
                for (int u = 0; u < 5; u++) {
                    add(t, u == v ? 9 : u, facts(), facts(u, 1));
                }
                aim(t, all(5, 1));
                due("singleGoal()", t.singleGoal(), 9);
                t.goal(v, -1);
                due("singleGoal() without it", t.singleGoal(), v == 4 ? 3 : 4);
            }
        });
        of("17: 0 if it has none", () -> {
            OperatorTasks t = new OperatorTasks(5, 4);
            due("singleGoal()", t.singleGoal(), 0);
            start(t, all(5, 3));
            add(t, 9, facts(0, 1), facts(0, 2));
            due("singleGoal()", t.singleGoal(), 0);
        });
        of("17: NONE if it is infinite, of one fact among all", () -> {
            for (int v = 0; v < 5; v++) {
                OperatorTasks t = new OperatorTasks(5, 2);
                add(t, 1, facts(), all(5, 1));
                aim(t, all(5, 1));
                due("singleGoal()", t.singleGoal(), 1);
                t.effect(0, v, -1);
                due("singleGoal()", t.singleGoal(), NONE);
            }
        });
    }

    private static void promises18And19() {
        of("18: one, if they are the same", () -> {
            OperatorTasks t = fullTask();
            due("paired(0, 0, 0, 0)", t.paired(0, 0, 0, 0), 0);
            due("paired(0, 1, 0, 1)", t.paired(0, 1, 0, 1), 2);
            due("paired(0, 2, 0, 2)", t.paired(0, 2, 0, 2), 5);
            due("paired(1, 2, 1, 2)", t.paired(1, 2, 1, 2), 8);
        });
        of("18: the set of two facts: the same either way round", () -> {
            OperatorTasks t = fullTask();
            int[][] due = {{0, 4, 8}, {2, 6, 10}, {5, 9, 13}};
            for (int x = 0; x < 3; x++) {
                for (int y = 0; y < 3; y++) {
                    due("paired(0, " + x + ", 1, " + y + ")", t.paired(0, x, 1, y), due[x][y]);
                    due("paired(1, " + y + ", 0, " + x + ")", t.paired(1, y, 0, x), due[x][y]);
                }
            }
        });
        of("18: NONE if it is infinite", () -> {
            OperatorTasks t = stuck();
            due("paired(0, 2, 0, 2)", t.paired(0, 2, 0, 2), NONE);
            due("paired(0, 0, 0, 1)", t.paired(0, 0, 0, 1), NONE);
            due("paired(0, 0, 0, 2)", t.paired(0, 0, 0, 2), NONE);
            OperatorTasks two = new OperatorTasks(2, 2);
            add(two, 0, facts(0, 0, 1, 0), facts(0, 1));
            add(two, 0, facts(0, 0, 1, 0), facts(1, 1));
            due("paired(0, 1, 1, 1)", two.paired(0, 1, 1, 1), NONE);
            due("paired(0, 1, 1, 0)", two.paired(0, 1, 1, 0), 0);
        });
        of("19: at most two of the goal's facts: one alone", () -> {
            OperatorTasks t = new OperatorTasks(5, 2);
            for (int v = 0; v < 5; v++) {
                add(t, v + 1, facts(), facts(v, 1));
                t.goal(v, 1);
                due("pairedGoal()", t.pairedGoal(), v + 1);
                t.goal(v, -1);
            }
        });
        of("19: at most two of the goal's facts: the greatest two of five, wherever they stand", () -> {
            for (int v = 0; v < 5; v++) {
                for (int u = 0; u < v; u++) {
                    OperatorTasks t = new OperatorTasks(5, 2);
                    for (int w = 0; w < 5; w++) {
                        add(t, w == v || w == u ? 9 : 1, facts(), facts(w, 1));
                    }
                    aim(t, all(5, 1));
                    due("pairedGoal()", t.pairedGoal(), 18);
                }
            }
        });
        of("19: 0 if it has none", () -> {
            OperatorTasks t = new OperatorTasks(5, 4);
            due("pairedGoal()", t.pairedGoal(), 0);
            start(t, all(5, 3));
            add(t, 9, facts(0, 1), facts(0, 2));
            due("pairedGoal()", t.pairedGoal(), 0);
        });
        of("19: NONE if it is infinite, of one pair among all", () -> {
            for (int v = 0; v < 5; v++) {
                for (int u = 0; u < v; u++) {
                    OperatorTasks t = new OperatorTasks(5, 2);
                    for (int w = 0; w < 5; w++) {
                        add(t, 1, facts(), facts(w, 1));
                    }
                    aim(t, all(5, 1));
                    due("pairedGoal()", t.pairedGoal(), 2);
                    t.need(v, u, 0);
                    due("pairedGoal() where one must come first", t.pairedGoal(), 2);
                    t.need(u, v, 0);
                    due("pairedGoal() where each must come first", t.pairedGoal(), NONE);
                    due("singleGoal() where each must come first", t.singleGoal(), 1);
                }
            }
        });
    }

    // Promises 20 and 21

    private static void promise20() {
        of("20: the least sum: 0 for an empty goal and for one in the begin", () -> {
            OperatorTasks t = new OperatorTasks(2, 2);
            due("relaxed()", t.relaxed(), 0);
            add(t, 1, facts(), facts(0, 1));
            t.goal(1, 0);
            due("relaxed()", t.relaxed(), 0);
        });
        of("20: the least sum: each counts once, however often a plan would use it", () -> {
            OperatorTasks t = counter(1, 9);
            due("relaxed()", t.relaxed(), 50);
        });
        of("20: the least sum: of all ten operators the cheapest choice", () -> {
            OperatorTasks t = new OperatorTasks(5, 2);
            for (int v = 0; v < 5; v++) {
                add(t, 2, facts(), facts(v, 1));
            }
            add(t, 9, facts(), all(5, 1));
            aim(t, all(5, 1));
            due("relaxed()", t.relaxed(), 9);
            add(t, 3, facts(), all(2, 1));
            due("relaxed()", t.relaxed(), 9);
            add(t, 1, facts(0, 1), facts(4, 1));
            due("relaxed()", t.relaxed(), 8);
            add(t, 1, facts(4, 1), facts(3, 1));
            add(t, 0, facts(3, 1), facts(2, 1));
            due("relaxed() with the tenth", t.relaxed(), 5);
        });
        of("20: NONE if there is none", () -> {
            OperatorTasks t = new OperatorTasks(2, 2);
            t.goal(0, 1);
            due("relaxed() without operators", t.relaxed(), NONE);
            add(t, 0, facts(1, 1), facts(0, 1));
            due("relaxed() where its need lacks", t.relaxed(), NONE);
            due("relaxed()", stuck().relaxed(), NONE);
        });
    }

    private static void promise21() {
        of("21: need, effect, goal: an x that is neither -1 nor 0 to D - 1 answers BAD_ARG", () -> {
            for (int d = 2; d <= 4; d++) {
                for (int x = d; x <= 10; x++) {
                    dueNoSetting(d, x);
                }
                for (int x : FAR_OFF) {
                    dueNoSetting(d, x);
                }
            }
        });
        of("21: need, effect, goal: -1 and 0 to D - 1 are no wrong x", () -> {
            for (int d = 2; d <= 4; d++) {
                OperatorTasks t = new OperatorTasks(2, d);
                t.operator(1);
                for (int x = 0; x < d; x++) {
                    due("need(0, 1, x)", t.need(0, 1, x), x - 1);
                    due("effect(0, 1, x)", t.effect(0, 1, x), x - 1);
                    due("goal(1, x)", t.goal(1, x), x - 1);
                }
                due("need(0, 1, -1)", t.need(0, 1, -1), d - 1);
                due("effect(0, 1, -1)", t.effect(0, 1, -1), d - 1);
                due("goal(1, -1)", t.goal(1, -1), d - 1);
            }
        });
        of("21: what is said of v and x holds for u and y of apart", () -> {
            OperatorTasks t = new OperatorTasks(3, 3);
            for (int w : new int[] {MIN, -1, 3, 4, 5, 16, 256, 1 << 30, MAX}) {
                due("apart(0, 1, " + w + ", 0)", t.apart(0, 1, w, 0), false);
                due("apart(0, 1, 0, " + w + ")", t.apart(0, 1, 0, w), false);
                due("apart(" + w + ", 0, 0, 1)", t.apart(w, 0, 0, 1), false);
                due("apart(0, " + w + ", 0, 1)", t.apart(0, w, 0, 1), false);
            }
            due("apart(0, 1, 2, 2)", t.apart(0, 1, 2, 2), true);
        });
        of("21: what is said of v and x holds for u and y of paired", () -> {
            OperatorTasks t = new OperatorTasks(3, 3);
            for (int w : new int[] {MIN, -1, 3, 4, 5, 16, 256, 1 << 30, MAX}) {
                due("paired(0, 0, " + w + ", 0)", t.paired(0, 0, w, 0), BAD);
                due("paired(0, 0, 0, " + w + ")", t.paired(0, 0, 0, w), BAD);
                due("paired(" + w + ", 0, 0, 0)", t.paired(w, 0, 0, 0), BAD);
                due("paired(0, " + w + ", 0, 0)", t.paired(0, w, 0, 0), BAD);
            }
            due("paired(0, 0, 2, 0)", t.paired(0, 0, 2, 0), 0);
            due("paired(0, 0, 2, 2)", t.paired(0, 0, 2, 2), NONE);
        });
    }

    private static void dueNoSetting(int d, int x) {
        OperatorTasks t = new OperatorTasks(2, d);
        add(t, 2, facts(0, 0), facts(0, 1));
        t.goal(0, 1);
        for (int v = 0; v < 2; v++) {
            due("need(0, " + v + ", " + x + ")", t.need(0, v, x), BAD);
            due("effect(0, " + v + ", " + x + ")", t.effect(0, v, x), BAD);
            due("goal(" + v + ", " + x + ")", t.goal(v, x), BAD);
        }
        duePlan(t, 2, 0);
        for (int v = 0; v < 2; v++) {
            due("need as it was", t.need(0, v, -1), v == 0 ? 0 : -1);
            due("effect as it was", t.effect(0, v, -1), v == 0 ? 1 : -1);
            due("goal as it was", t.goal(v, -1), v == 0 ? 1 : -1);
        }
    }
}
