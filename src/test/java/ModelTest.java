import java.util.ArrayDeque;
import java.util.ArrayList;
import java.util.Arrays;
import java.util.Deque;
import java.util.HashMap;
import java.util.HashSet;
import java.util.List;
import java.util.Map;
import java.util.PriorityQueue;
import java.util.Set;
import java.util.TreeSet;

/**
 * Generated tasks, every answer compared with that of a slow model that follows the document's
 * words: forward search over lists for plans, a search from every state for what leads where,
 * sets of facts for bounds, a search over gathered facts for relaxed plans.
 */
public final class ModelTest {
    private static final long INFINITE = Long.MAX_VALUE / 4;

    private static int wrong = 0;
    private static int asked = 0;
    private static long seed = 20261115L;

    /** The tests must be the same in every run, so the numbers come from a fixed row. */
    private static int pick(int below) {
        seed = seed * 6364136223846793005L + 1442695040888963407L;
        return (int) ((seed >>> 33) % below);
    }

    public static void main(String[] args) {
        for (int run = 0; run < 2500; run++) {
            compareRun(run, 1 + pick(3), 2 + pick(3));
        }
        for (int run = 2500; run < 2600; run++) {
            compareRun(run, 4 + pick(2), 2 + pick(2));
        }
        for (int run = 2600; run < 2612; run++) {
            compareRun(run, 5, 4);
        }
        compareCounter(2612);
        System.out.println(asked + " answers compared");
        System.out.println(wrong == 0 ? "all answers are as due" : wrong + " answers are not as due");
        if (wrong != 0) {
            System.exit(1);
        }
    }

    private static void due(int run, String what, Object got, Object want) {
        asked++;
        if (!got.equals(want)) {
            wrong++;
            if (wrong < 50) {
                System.out.println("run " + run + ": " + what + " answered " + got + ", due is " + want);
            }
        }
    }

    private static void compareRun(int run, int n, int d) {
        Model m = new Model(n, d);
        Subject t = new Subject(m);
        int operators = pick(11);
        int free = 1 + pick(4);
        int dearest = pick(3) == 0 ? 2 : 10;
        for (int o = 0; o < operators; o++) {
            int cost = pick(dearest);
            due(run, "operator", t.ask().operator(cost), m.addOperator(cost));
            for (int v = 0; v < n; v++) {
                if (pick(4) >= free) {
                    setNeed(run, t, m, o, v, pick(d));
                }
                if (pick(3) == 0) {
                    setEffect(run, t, m, o, v, pick(d));
                }
            }
            int v = pick(n);
            setEffect(run, t, m, o, v, pick(d));
        }
        for (int v = 0; v < n; v++) {
            if (pick(2) == 0) {
                setBegin(run, t, m, v, pick(d));
            }
            if (pick(2) == 0) {
                setGoal(run, t, m, v, pick(d));
            }
        }
        compare(run, t, m);
        int changes = n > 3 ? 1 : 3;
        for (int i = 0; i < changes; i++) {
            change(run, t, m);
            compare(run, t, m);
        }
    }

    /**
     * Five digits, each 0 to 2, that count from 00000 to 22222: operator 2i makes digit i 1,
     * operator 2i + 1 makes it 2, and both make the digits below, which must be 2, 0.
     */
    private static void compareCounter(int run) {
        Model m = new Model(5, 3);
        Subject t = new Subject(m);
        for (int o = 0; o < 10; o++) {
            due(run, "operator", t.ask().operator(9 - o), m.addOperator(9 - o));
            for (int v = 0; v < o / 2; v++) {
                setNeed(run, t, m, o, v, 2);
                setEffect(run, t, m, o, v, 0);
            }
            setNeed(run, t, m, o, o / 2, o % 2);
            setEffect(run, t, m, o, o / 2, o % 2 + 1);
        }
        for (int v = 0; v < 5; v++) {
            setGoal(run, t, m, v, 2);
        }
        compare(run, t, m);
        setBegin(run, t, m, 4, 1);
        setGoal(run, t, m, 0, -1);
        compare(run, t, m);
    }

    private static void change(int run, Subject t, Model m) {
        int v = pick(m.n);
        int operators = m.costs.size();
        int kind = pick(operators == 0 ? 2 : 4);
        if (kind == 0) {
            setBegin(run, t, m, v, pick(m.d));
        } else if (kind == 1) {
            setGoal(run, t, m, v, pick(m.d + 1) - 1);
        } else if (kind == 2) {
            setNeed(run, t, m, pick(operators), v, pick(m.d + 1) - 1);
        } else {
            setEffect(run, t, m, pick(operators), v, pick(m.d + 1) - 1);
        }
    }

    private static void setNeed(int run, Subject t, Model m, int o, int v, int x) {
        due(run, "need", t.ask().need(o, v, x), m.needs.get(o)[v]);
        m.needs.get(o)[v] = x;
    }

    private static void setEffect(int run, Subject t, Model m, int o, int v, int x) {
        due(run, "effect", t.ask().effect(o, v, x), m.effects.get(o)[v]);
        m.effects.get(o)[v] = x;
    }

    private static void setBegin(int run, Subject t, Model m, int v, int x) {
        due(run, "begin", t.ask().begin(v, x), m.begin[v]);
        m.begin[v] = x;
    }

    private static void setGoal(int run, Subject t, Model m, int v, int x) {
        due(run, "goal", t.ask().goal(v, x), m.goal[v]);
        m.goal[v] = x;
    }

    private static void compare(int run, Subject t, Model m) {
        comparePlan(run, t, m);
        Set<List<Integer>> reached = m.reachedFrom(m.beginState());
        due(run, "reached", t.ask().reached(), reached.size());
        compareWays(run, t, m, reached);
        compareFacts(run, t, m, reached);
        compareBounds(run, t, m);
        due(run, "relaxed", t.ask().relaxed(), orNone(m.relaxed()));
    }

    private static void comparePlan(int run, Subject t, Model m) {
        List<Integer> plan = m.bestPlan();
        boolean none = plan == null;
        due(run, "cost", t.ask().cost(), none ? OperatorTasks.NONE : m.costOf(plan));
        due(run, "length", t.ask().length(), none ? OperatorTasks.NONE : plan.size());
        int steps = none ? 0 : plan.size();
        for (int i = 0; i < steps; i++) {
            due(run, "step " + i, t.ask().step(i), plan.get(i));
        }
        due(run, "step " + steps, t.ask().step(steps), OperatorTasks.NONE);
        due(run, "step -1", t.ask().step(-1), OperatorTasks.NONE);
    }

    private static void compareWays(int run, Subject t, Model m, Set<List<Integer>> reached) {
        int dead = 0;
        int returning = 0;
        for (List<Integer> state : reached) {
            Set<List<Integer>> on = m.reachedFrom(state);
            if (on.stream().noneMatch(m::isGoal)) {
                dead++;
            }
            if (on.contains(m.beginState())) {
                returning++;
            }
        }
        due(run, "dead", t.ask().dead(), dead);
        due(run, "returning", t.ask().returning(), returning);
    }

    private static void compareFacts(int run, Subject t, Model m, Set<List<Integer>> reached) {
        boolean plan = reached.stream().anyMatch(m::isGoal);
        for (int o = 0; o < m.costs.size(); o++) {
            due(run, "needed " + o, t.ask().needed(o), plan && !m.planWithout(o, -1, -1));
        }
        for (int v = 0; v < m.n; v++) {
            for (int x = 0; x < m.d; x++) {
                due(run, "passes " + v + " " + x, t.ask().passes(v, x), plan && !m.planWithout(-1, v, x));
                for (int u = 0; u < m.n; u++) {
                    for (int y = 0; y < m.d; y++) {
                        due(run, "apart " + v + " " + x + " " + u + " " + y, t.ask().apart(v, x, u, y),
                                m.apart(reached, v, x, u, y));
                    }
                }
            }
        }
    }

    private static void compareBounds(int run, Subject t, Model m) {
        Map<Set<Integer>, Long> one = m.bounds(1);
        Map<Set<Integer>, Long> two = m.bounds(2);
        for (int v = 0; v < m.n; v++) {
            for (int x = 0; x < m.d; x++) {
                int f = 10 * v + x;
                due(run, "single " + v + " " + x, t.ask().single(v, x), orNone(one.get(Set.of(f))));
                for (int u = 0; u < m.n; u++) {
                    for (int y = 0; y < m.d; y++) {
                        Set<Integer> set = new HashSet<>(List.of(f, 10 * u + y));
                        due(run, "paired " + v + " " + x + " " + u + " " + y,
                                t.ask().paired(v, x, u, y), orNone(two.get(set)));
                    }
                }
            }
        }
        Set<Integer> goal = Model.factsOf(m.goal);
        due(run, "singleGoal", t.ask().singleGoal(), orNone(Model.greatest(one, goal, 1)));
        due(run, "pairedGoal", t.ask().pairedGoal(), orNone(Model.greatest(two, goal, 2)));
    }

    private static int orNone(long number) {
        return number >= INFINITE ? OperatorTasks.NONE : (int) number;
    }

    /**
     * The object under test. What it answers after its 512th call is free, so then a new one is
     * made, and brought by calls to where the model is.
     */
    private static final class Subject {
        private final Model m;
        private OperatorTasks object;
        private int calls = 0;

        Subject(Model m) {
            this.m = m;
            object = new OperatorTasks(m.n, m.d);
        }

        OperatorTasks ask() {
            if (calls == 512) {
                rebuild();
            }
            calls++;
            return object;
        }

        private void rebuild() {
            object = new OperatorTasks(m.n, m.d);
            calls = 0;
            for (int o = 0; o < m.costs.size(); o++) {
                ask().operator(m.costs.get(o));
                for (int v = 0; v < m.n; v++) {
                    ask().need(o, v, m.needs.get(o)[v]);
                    ask().effect(o, v, m.effects.get(o)[v]);
                }
            }
            for (int v = 0; v < m.n; v++) {
                ask().begin(v, m.begin[v]);
                ask().goal(v, m.goal[v]);
            }
        }
    }

    /** The task once more, with a fact as 10 times its variable plus its value. */
    private static final class Model {
        final int n;
        final int d;
        final List<Integer> costs = new ArrayList<>();
        final List<int[]> needs = new ArrayList<>();
        final List<int[]> effects = new ArrayList<>();
        final int[] begin;
        final int[] goal;

        Model(int n, int d) {
            this.n = n;
            this.d = d;
            begin = new int[n];
            goal = none();
        }

        int[] none() {
            int[] all = new int[n];
            Arrays.fill(all, -1);
            return all;
        }

        int addOperator(int cost) {
            costs.add(cost);
            needs.add(none());
            effects.add(none());
            return costs.size() - 1;
        }

        List<Integer> beginState() {
            return Arrays.stream(begin).boxed().toList();
        }

        static boolean has(List<Integer> state, int[] facts) {
            for (int v = 0; v < facts.length; v++) {
                if (facts[v] >= 0 && facts[v] != state.get(v)) {
                    return false;
                }
            }
            return true;
        }

        boolean isGoal(List<Integer> state) {
            return has(state, goal);
        }

        List<Integer> use(List<Integer> state, int o) {
            List<Integer> next = new ArrayList<>(state);
            for (int v = 0; v < n; v++) {
                if (effects.get(o)[v] >= 0) {
                    next.set(v, effects.get(o)[v]);
                }
            }
            return next;
        }

        Set<List<Integer>> reachedFrom(List<Integer> first) {
            Set<List<Integer>> found = new HashSet<>();
            Deque<List<Integer>> open = new ArrayDeque<>();
            found.add(first);
            open.push(first);
            while (!open.isEmpty()) {
                List<Integer> state = open.pop();
                for (int o = 0; o < costs.size(); o++) {
                    if (has(state, needs.get(o))) {
                        List<Integer> next = use(state, o);
                        if (found.add(next)) {
                            open.push(next);
                        }
                    }
                }
            }
            return found;
        }

        int costOf(List<Integer> plan) {
            return plan.stream().mapToInt(costs::get).sum();
        }

        int comparePlans(List<Integer> a, List<Integer> b) {
            if (costOf(a) != costOf(b)) {
                return Integer.compare(costOf(a), costOf(b));
            }
            if (a.size() != b.size()) {
                return Integer.compare(a.size(), b.size());
            }
            for (int i = 0; i < a.size(); i++) {
                if (!a.get(i).equals(b.get(i))) {
                    return Integer.compare(a.get(i), b.get(i));
                }
            }
            return 0;
        }

        List<Integer> bestPlan() {
            PriorityQueue<List<Integer>> open = new PriorityQueue<>(this::comparePlans);
            Set<List<Integer>> closed = new HashSet<>();
            open.add(List.of());
            while (!open.isEmpty()) {
                List<Integer> plan = open.poll();
                List<Integer> state = beginState();
                for (int o : plan) {
                    state = use(state, o);
                }
                if (isGoal(state)) {
                    return plan;
                }
                if (closed.add(state)) {
                    for (int o = 0; o < costs.size(); o++) {
                        if (has(state, needs.get(o))) {
                            List<Integer> longer = new ArrayList<>(plan);
                            longer.add(o);
                            open.add(longer);
                        }
                    }
                }
            }
            return null;
        }

        /** Searches states together with whether the operator or the fact has come up so far. */
        boolean planWithout(int o, int v, int x) {
            record Point(List<Integer> state, boolean come) { }
            Set<Point> found = new HashSet<>();
            Deque<Point> open = new ArrayDeque<>();
            Point first = new Point(beginState(), v >= 0 && begin[v] == x);
            found.add(first);
            open.add(first);
            while (!open.isEmpty()) {
                Point p = open.remove();
                if (!p.come && isGoal(p.state)) {
                    return true;
                }
                for (int k = 0; k < costs.size(); k++) {
                    if (has(p.state, needs.get(k))) {
                        List<Integer> next = use(p.state, k);
                        boolean come = p.come || k == o || v >= 0 && next.get(v) == x;
                        Point q = new Point(next, come);
                        if (found.add(q)) {
                            open.add(q);
                        }
                    }
                }
            }
            return false;
        }

        boolean apart(Set<List<Integer>> reached, int v, int x, int u, int y) {
            return reached.stream().noneMatch(s -> s.get(v) == x && s.get(u) == y);
        }

        static Set<Integer> factsOf(int[] values) {
            Set<Integer> facts = new TreeSet<>();
            for (int v = 0; v < values.length; v++) {
                if (values[v] >= 0) {
                    facts.add(10 * v + values[v]);
                }
            }
            return facts;
        }

        static boolean twoValues(Set<Integer> facts) {
            return facts.stream().map(f -> f / 10).distinct().count() < facts.size();
        }

        static long greatest(Map<Set<Integer>, Long> bounds, Set<Integer> facts, int most) {
            long greatest = 0;
            for (int f : facts) {
                greatest = Math.max(greatest, bounds.get(Set.of(f)));
                for (int g : facts) {
                    if (most == 2 && f != g) {
                        greatest = Math.max(greatest, bounds.get(Set.of(f, g)));
                    }
                }
            }
            return greatest;
        }

        Map<Set<Integer>, Long> bounds(int most) {
            Map<Set<Integer>, Long> bounds = new HashMap<>();
            for (int f = 0; f < 10 * n; f++) {
                for (int g = 0; g < 10 * n; g++) {
                    if (f % 10 < d && g % 10 < d && (f == g || most == 2)) {
                        Set<Integer> set = new HashSet<>();
                        set.add(f);
                        set.add(g);
                        bounds.put(set, INFINITE);
                    }
                }
            }
            boolean changed = true;
            while (changed) {
                Map<Set<Integer>, Long> next = new HashMap<>();
                for (Set<Integer> set : bounds.keySet()) {
                    next.put(set, boundOf(set, bounds, most));
                }
                changed = !next.equals(bounds);
                bounds = next;
            }
            return bounds;
        }

        long boundOf(Set<Integer> set, Map<Set<Integer>, Long> bounds, int most) {
            if (twoValues(set)) {
                return INFINITE;
            }
            if (factsOf(begin).containsAll(set)) {
                return 0;
            }
            long least = INFINITE;
            for (int o = 0; o < costs.size(); o++) {
                Set<Integer> brought = factsOf(effects.get(o));
                Set<Integer> together = new HashSet<>(set);
                together.addAll(brought);
                boolean one = together.size() < set.size() + brought.size();
                if (one && !twoValues(together)) {
                    Set<Integer> rest = new HashSet<>(set);
                    rest.removeAll(brought);
                    rest.addAll(factsOf(needs.get(o)));
                    long bound = twoValues(rest) ? INFINITE : costs.get(o) + greatest(bounds, rest, most);
                    least = Math.min(least, Math.min(bound, INFINITE));
                }
            }
            return least;
        }

        long relaxed() {
            record Gathered(long cost, Set<Integer> facts) { }
            PriorityQueue<Gathered> open =
                    new PriorityQueue<>((a, b) -> Long.compare(a.cost, b.cost));
            Set<Set<Integer>> closed = new HashSet<>();
            open.add(new Gathered(0, factsOf(begin)));
            while (!open.isEmpty()) {
                Gathered g = open.poll();
                if (!closed.add(g.facts)) {
                    continue;
                }
                if (g.facts.containsAll(factsOf(goal))) {
                    return g.cost;
                }
                for (int o = 0; o < costs.size(); o++) {
                    if (g.facts.containsAll(factsOf(needs.get(o)))) {
                        Set<Integer> more = new TreeSet<>(g.facts);
                        more.addAll(factsOf(effects.get(o)));
                        open.add(new Gathered(g.cost + costs.get(o), more));
                    }
                }
            }
            return INFINITE;
        }
    }
}
