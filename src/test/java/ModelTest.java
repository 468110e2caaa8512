import java.util.ArrayList;
import java.util.List;
import java.util.TreeMap;

/**
 * Runs of calls that a fixed row of numbers chooses, each answer held against a second program
 * that follows the document's words and shares no way of working with the class.
 */
public final class ModelTest {
    private static final int RUNS = 1200;

    private static int wrong = 0;
    private static long seed = 20261115L;
    private static final TreeMap<String, Integer> seen = new TreeMap<>();

    private static int below(int n) {
        seed = seed * 6364136223846793005L + 1442695040888963407L;
        return (int) ((seed >>> 33) % n);
    }

    /** The document's terms, with recursion, lists and sets that are tried one by one. */
    private static final class Model {
        final int[] sizes = {1, 1, 1};
        List<Integer> draft = new ArrayList<>();
        List<Integer> init = null;
        List<Integer> held = null;
        final Action[] actions = new Action[4];
        List<Integer> trace = new ArrayList<>();
        List<Integer> failing = new ArrayList<>();

        private static final class Action {
            List<Integer> guard;
            final Object[] effects = {"stays", "stays", "stays"};
            int fairness = 0;
        }

        private List<Integer> rest;

        private boolean skip() {
            if (rest.isEmpty()) {
                return false;
            }
            int t = rest.remove(0);
            boolean fine = true;
            int operands = t < 20 ? 0 : t == 27 ? 1 : t == 28 ? 3 : 2;
            for (int i = 0; i < operands && fine; i++) {
                fine = skip();
            }
            return fine;
        }

        boolean isExpression(List<Integer> list) {
            rest = new ArrayList<>(list);
            return skip() && rest.isEmpty();
        }

        private int next(int s) {
            int t = rest.remove(0);
            if (t < 5) {
                return t;
            }
            if (t < 20) {
                return values(s)[t - 10];
            }
            int a = next(s);
            if (t == 27) {
                return a == 0 ? 1 : 0;
            }
            int b = next(s);
            switch (t) {
                case 20: return a + b;
                case 21: return a - b;
                case 22: return a * b;
                case 23: return a == b ? 1 : 0;
                case 24: return a < b ? 1 : 0;
                case 25: return a == 0 || b == 0 ? 0 : 1;
                case 26: return a == 0 && b == 0 ? 0 : 1;
                default:
                    int c = next(s);
                    return a == 0 ? c : b;
            }
        }

        int value(List<Integer> list, int s) {
            rest = new ArrayList<>(list);
            return next(s);
        }

        boolean isTrue(List<Integer> list, int s) {
            return value(list, s) != 0;
        }

        int total() {
            return sizes[0] * sizes[1] * sizes[2];
        }

        int[] values(int s) {
            for (int v2 = 0; v2 < sizes[2]; v2++) {
                for (int v1 = 0; v1 < sizes[1]; v1++) {
                    for (int v0 = 0; v0 < sizes[0]; v0++) {
                        if (v0 + sizes[0] * (v1 + sizes[1] * v2) == s) {
                            return new int[] {v0, v1, v2};
                        }
                    }
                }
            }
            return null;
        }

        boolean isState(int s) {
            return s >= 0 && s < total();
        }

        boolean there(int a) {
            return a >= 0 && a < 4 && actions[a] != null;
        }

        @SuppressWarnings("unchecked")
        boolean leads(int a, int s, int t) {
            if (!there(a) || !isState(s) || !isState(t) || !isTrue(actions[a].guard, s)) {
                return false;
            }
            for (int v = 0; v < 3; v++) {
                Object e = actions[a].effects[v];
                int old = values(s)[v];
                int now = values(t)[v];
                if (e.equals("stays") && now != old) {
                    return false;
                }
                if (e instanceof List && Math.floorMod(value((List<Integer>) e, s), sizes[v]) != now) {
                    return false;
                }
            }
            return true;
        }

        // All is drawn once for each specification, or the runs would take too long.
        private boolean[][][] drawn = null;
        private boolean[][] steps = null;
        private boolean[][] able = null;

        private void draw() {
            if (drawn != null) {
                return;
            }
            drawn = new boolean[4][total()][total()];
            steps = new boolean[total()][total()];
            able = new boolean[4][total()];
            for (int s = 0; s < total(); s++) {
                steps[s][s] = true;
                for (int a = 0; a < 4; a++) {
                    boolean runs = there(a) && isTrue(actions[a].guard, s);
                    for (int t = 0; runs && t < total(); t++) {
                        drawn[a][s][t] = leads(a, s, t);
                        steps[s][t] |= drawn[a][s][t];
                        able[a][s] |= t != s && drawn[a][s][t];
                    }
                }
            }
        }

        boolean step(int s, int t) {
            draw();
            return steps[s][t];
        }

        boolean enabled(int a, int s) {
            draw();
            return able[a][s];
        }

        boolean isTaken(int a, int s, int t) {
            draw();
            return s != t && drawn[a][s][t];
        }

        int[] depths() {
            int[] depth = new int[total()];
            List<Integer> row = new ArrayList<>();
            for (int s = 0; s < total(); s++) {
                depth[s] = init == null || isTrue(init, s) ? 0 : -1;
                if (depth[s] == 0) {
                    row.add(s);
                }
            }
            for (int i = 0; i < row.size(); i++) {
                for (int t = 0; t < total(); t++) {
                    if (depth[t] < 0 && step(row.get(i), t)) {
                        depth[t] = depth[row.get(i)] + 1;
                        row.add(t);
                    }
                }
            }
            return depth;
        }

        int count(int what) {
            int[] depth = depths();
            int answer = what == 3 ? -1 : 0;
            for (int s = 0; s < total(); s++) {
                int out = 0;
                for (int t = 0; t < total(); t++) {
                    out += s != t && step(s, t) ? 1 : 0;
                }
                switch (what) {
                    case 0: answer += 1; break;
                    case 1: answer += depth[s] == 0 ? 1 : 0; break;
                    case 2: answer += depth[s] >= 0 ? 1 : 0; break;
                    case 3: answer = Math.max(answer, depth[s]); break;
                    case 4: answer += depth[s] >= 0 && out == 0 ? 1 : 0; break;
                    case 5: answer += depth[s] >= 0 ? out : 0; break;
                    default: return -1;
                }
            }
            return answer;
        }

        int state(int s, int what) {
            if (!isState(s) || what < 0 || what > 5) {
                return -1;
            }
            if (what == 0) {
                return depths()[s];
            }
            if (what > 2) {
                return values(s)[what - 3];
            }
            int sum = 0;
            for (int a = 0; a < 4; a++) {
                boolean in = what == 1 ? enabled(a, s) : there(a) && isTrue(actions[a].guard, s);
                sum += in ? 1 << a : 0;
            }
            return sum;
        }

        /** Rows in their order, until one ends in a breach; dead ones are not tried twice. */
        private boolean search(List<Integer> row, int d, boolean[][] dead) {
            int s = row.get(row.size() - 1);
            int left = d + 1 - row.size();
            if (left == 0) {
                return !isTrue(draft, s);
            }
            for (int t = 0; t < total(); t++) {
                if (step(s, t) && !dead[left - 1][t]) {
                    row.add(t);
                    if (search(row, d, dead)) {
                        return true;
                    }
                    row.remove(row.size() - 1);
                    dead[left - 1][t] = true;
                }
            }
            return false;
        }

        int invariant() {
            if (!isExpression(draft)) {
                return -2;
            }
            int[] depth = depths();
            int d = -1;
            for (int s = 0; s < total(); s++) {
                if (depth[s] >= 0 && !isTrue(draft, s) && (d < 0 || depth[s] < d)) {
                    d = depth[s];
                }
            }
            if (d < 0) {
                return -1;
            }
            boolean[][] dead = new boolean[d + 1][total()];
            for (int s = 0; s < total(); s++) {
                List<Integer> row = new ArrayList<>(List.of(s));
                if (depth[s] == 0 && search(row, d, dead)) {
                    trace = row;
                    return d;
                }
            }
            throw new IllegalStateException("no row to a breach");
        }

        private boolean[] from(int s, boolean[] within) {
            boolean[] reached = new boolean[total()];
            List<Integer> row = new ArrayList<>();
            if (within[s]) {
                reached[s] = true;
                row.add(s);
            }
            for (int i = 0; i < row.size(); i++) {
                for (int t = 0; t < total(); t++) {
                    if (within[t] && !reached[t] && step(row.get(i), t)) {
                        reached[t] = true;
                        row.add(t);
                    }
                }
            }
            return reached;
        }

        /** The set is visited endlessly often by all its steps: the most that can be taken. */
        private boolean isFair(boolean[] set, int strongGiven) {
            for (int a = 0; a < 4; a++) {
                boolean always = true;
                boolean ever = false;
                boolean taken = false;
                for (int s = 0; s < total(); s++) {
                    if (set[s]) {
                        always &= enabled(a, s);
                        ever |= enabled(a, s);
                        for (int t = 0; t < total(); t++) {
                            taken |= set[t] && isTaken(a, s, t);
                        }
                    }
                }
                int how = there(a) ? actions[a].fairness : 0;
                if (how == 1 && always && !taken || how == 2 && ever && !taken) {
                    return false;
                }
                if (how == 2 && (strongGiven >> a & 1) == 0 && !taken) {
                    return false;
                }
            }
            return true;
        }

        /** All sets of calm states that are connected and fair. */
        private boolean[] byAllSets(boolean[] calm) {
            List<Integer> list = new ArrayList<>();
            for (int s = 0; s < total(); s++) {
                if (calm[s]) {
                    list.add(s);
                }
            }
            boolean[] home = new boolean[total()];
            for (int sum = 1; sum < 1 << list.size(); sum++) {
                boolean[] set = new boolean[total()];
                for (int i = 0; i < list.size(); i++) {
                    set[list.get(i)] = (sum >> i & 1) == 1;
                }
                boolean connected = true;
                for (int s = 0; s < total() && connected; s++) {
                    connected = !set[s] || java.util.Arrays.equals(from(s, set), set);
                }
                if (connected && isFair(set, 15)) {
                    for (int s = 0; s < total(); s++) {
                        home[s] |= set[s];
                    }
                }
            }
            return home;
        }

        /** For each guess of the strong actions that are not enabled any more: components. */
        private boolean[] byGuesses(boolean[] calm) {
            boolean[] home = new boolean[total()];
            int strongOnes = 0;
            for (int a = 0; a < 4; a++) {
                strongOnes += there(a) && actions[a].fairness == 2 ? 1 << a : 0;
            }
            for (int given = 0; given < 16; given++) {
                if ((given & ~strongOnes) != 0) {
                    continue;
                }
                boolean[] within = calm.clone();
                for (int s = 0; s < total(); s++) {
                    for (int a = 0; a < 4; a++) {
                        boolean strong = there(a) && actions[a].fairness == 2;
                        within[s] &= !(strong && (given >> a & 1) == 1 && enabled(a, s));
                    }
                }
                boolean[][] reach = new boolean[total()][];
                for (int s = 0; s < total(); s++) {
                    reach[s] = from(s, within);
                }
                for (int s = 0; s < total(); s++) {
                    boolean[] set = new boolean[total()];
                    for (int t = 0; t < total(); t++) {
                        set[t] = reach[s][t] && reach[t][s];
                    }
                    home[s] |= within[s] && isFair(set, given);
                }
            }
            return home;
        }

        int fails() {
            if (!isExpression(draft)) {
                return -2;
            }
            int[] depth = depths();
            boolean[] calm = new boolean[total()];
            int calmOnes = 0;
            for (int s = 0; s < total(); s++) {
                calm[s] = depth[s] >= 0 && !isTrue(draft, s);
                calmOnes += calm[s] ? 1 : 0;
            }
            boolean[] home = calmOnes <= 8 ? byAllSets(calm) : byGuesses(calm);
            List<Integer> found = new ArrayList<>();
            for (int s = 0; s < total(); s++) {
                boolean comes = false;
                boolean[] reach = from(s, calm);
                for (int t = 0; t < total(); t++) {
                    comes |= reach[t] && home[t];
                }
                if (comes && (held == null || isTrue(held, s))) {
                    found.add(s);
                }
            }
            failing = found;
            return found.size();
        }

        private List<Integer> takeDraft() {
            List<Integer> was = draft;
            draft = new ArrayList<>();
            return was;
        }

        boolean variable(int v, int n) {
            if (v < 0 || v > 2 || n < 1 || n > 5) {
                return false;
            }
            sizes[v] = n;
            drawn = null;
            return true;
        }

        int token(int t) {
            boolean known = List.of(0, 1, 2, 3, 4, 10, 11, 12, 20, 21, 22, 23, 24, 25, 26, 27, 28).contains(t);
            if (!known || draft.size() == 12) {
                return -1;
            }
            draft.add(t);
            return draft.size();
        }

        boolean action(int a) {
            List<Integer> was = takeDraft();
            if (a < 0 || a > 3 || !isExpression(was)) {
                return false;
            }
            actions[a] = new Action();
            actions[a].guard = was;
            drawn = null;
            return true;
        }

        boolean effect(int a, int v, boolean any) {
            List<Integer> was = takeDraft();
            if (!there(a) || v < 0 || v > 2 || !was.isEmpty() && !isExpression(was)) {
                return false;
            }
            actions[a].effects[v] = was.isEmpty() ? any ? "any" : "stays" : was;
            drawn = null;
            return true;
        }

        boolean fair(int a, int how) {
            if (!there(a) || how < 0 || how > 2) {
                return false;
            }
            actions[a].fairness = how;
            return true;
        }

        boolean drop(int a) {
            if (!there(a)) {
                return false;
            }
            actions[a] = null;
            drawn = null;
            return true;
        }

        boolean init() {
            List<Integer> was = takeDraft();
            if (!was.isEmpty() && !isExpression(was)) {
                return false;
            }
            init = was.isEmpty() ? null : was;
            return true;
        }

        boolean hold() {
            List<Integer> was = takeDraft();
            if (!was.isEmpty() && !isExpression(was)) {
                return false;
            }
            held = was.isEmpty() ? null : was;
            return true;
        }

        int trace(int k) {
            return k >= 0 && k < trace.size() ? trace.get(k) : -1;
        }

        int failing(int k) {
            return k >= 0 && k < failing.size() ? failing.get(k) : -1;
        }
    }

    private static FairChecker x;
    private static Model m;
    private static int calls;
    private static List<String> told;

    private static void due(String call, int got, int want) {
        calls++;
        told.add(call + " -> " + got);
        if (got != want) {
            wrong++;
            System.out.println(told + ", due is " + want);
        }
    }

    private static void due(String call, boolean got, boolean want) {
        due(call, got ? 1 : 0, want ? 1 : 0);
    }

    private static void note(String what) {
        seen.merge(what, 1, Integer::sum);
    }

    private static void token(int t) {
        due("token " + t, x.token(t), m.token(t));
    }

    /** An expression of at most so many tokens, as a list that the caller appends. */
    private static List<Integer> expression(int most) {
        List<Integer> list = new ArrayList<>();
        int kind = most < 2 ? 0 : below(10);
        if (most >= 4 && kind == 9) {
            list.add(28);
            List<Integer> a = expression(most - 3);
            List<Integer> b = expression(most - 2 - a.size());
            list.addAll(a);
            list.addAll(b);
            list.addAll(expression(most - 1 - a.size() - b.size()));
        } else if (most >= 3 && kind >= 2) {
            list.add(20 + below(7));
            List<Integer> a = expression(most - 2);
            list.addAll(a);
            list.addAll(expression(most - 1 - a.size()));
        } else if (most >= 2 && kind == 1) {
            list.add(27);
            list.addAll(expression(most - 1));
        } else {
            list.add(below(2) == 0 ? below(5) : 10 + below(3));
        }
        return list;
    }

    private static void comparison() {
        int kind = below(4);
        token(23 + below(2));
        if (kind == 0) {
            tokens(20, 10 + below(3), 10 + below(3));
        } else {
            token(10 + below(3));
        }
        token(below(4));
    }

    private static void tokens(int... list) {
        for (int t : list) {
            token(t);
        }
    }

    private static void write() {
        int kind = below(30);
        if (kind == 0) {
            token(below(35) - 3);
        } else if (kind == 1) {
            return;
        } else if (kind < 14) {
            comparison();
        } else {
            for (int t : expression(1 + below(12))) {
                token(t);
            }
        }
    }

    private static int mostly(int n) {
        return below(25) == 0 ? below(n + 4) - 2 : below(n);
    }

    /** One variable goes on or back, as another one allows: such actions make deep states. */
    private static void mover(int a) {
        if (below(2) == 0) {
            token(1);
        } else {
            comparison();
        }
        due("action " + a, x.action(a), m.action(a));
        int v = below(3);
        for (int i = 0; i < 6 && m.sizes[v] == 1; i++) {
            v = below(3);
        }
        if (below(6) > 0) {
            tokens(20 + below(2), 10 + v, 1);
        }
        due("effect " + a + v + true, x.effect(a, v, true), m.effect(a, v, true));
        int how = below(3);
        due("fair " + a + how, x.fair(a, how), m.fair(a, how));
    }

    /** A predicate that is TRUE for a reached state and a few more, or for all but these. */
    private static void narrow() {
        int[] depth = m.depths();
        int s = below(depth.length);
        for (int i = 0; i < 20 && depth[s] < 1; i++) {
            s = below(depth.length);
        }
        int[] values = m.values(s);
        int u = below(3);
        int v = below(3);
        if (below(2) == 0) {
            token(27);
        }
        if (below(2) == 0) {
            tokens(25, 23, 10 + u, values[u], 23, 10 + v, values[v]);
        } else {
            tokens(25, 23, 10, values[0], 25, 23, 11, values[1], 23, 12, values[2]);
        }
    }

    private static void oneAction(int a) {
        if (below(4) > 0) {
            mover(a);
            return;
        }
        int kind = below(4);
        if (kind == 0) {
            token(1);
        } else {
            write();
        }
        due("action " + a, x.action(a), m.action(a));
        for (int v = 0; v < 3; v++) {
            int how = below(9);
            if (how == 0) {
                due("effect any " + a + v, x.effect(a, v, true), m.effect(a, v, true));
            } else if (how < 3) {
                token(20 + below(2));
                token(10 + below(3));
                token(1 + below(2));
                boolean any = below(2) == 0;
                due("effect " + a + v, x.effect(a, v, any), m.effect(a, v, any));
            } else if (how == 3) {
                write();
                due("effect " + a + v, x.effect(a, v, false), m.effect(a, v, false));
            }
        }
        int how = below(3);
        due("fair " + a + how, x.fair(a, how), m.fair(a, how));
    }

    private static void specify(int least, int largest) {
        for (int v = 0; v < 3; v++) {
            int n = least + below(largest - least + 1);
            due("variable " + v + n, x.variable(v, n), m.variable(v, n));
        }
        for (int a = 0; a < 4; a++) {
            oneAction(a);
        }
        if (below(4) == 0) {
            write();
        } else {
            // Few initial states make deep ones.
            tokens(23, 20, 10, 20, 11, 12, below(2));
        }
        due("init", x.init(), m.init());
    }

    private static void changeOne() {
        int a = mostly(4);
        int v = mostly(3);
        int how = mostly(3);
        boolean any = below(2) == 0;
        switch (below(9)) {
            case 0: {
                int n = mostly(5);
                if (below(6) == 0) {
                    due("variable " + v + " " + n, x.variable(v, n), m.variable(v, n));
                }
                break;
            }
            case 1: due("drop " + a, x.drop(a), m.drop(a)); break;
            case 2: oneAction(below(4)); break;
            case 3: write(); due("effect " + a + v + any, x.effect(a, v, any), m.effect(a, v, any)); break;
            case 4: if (below(4) == 0) { write(); } else { tokens(23, 20, 10, 20, 11, 12, below(2)); } due("init", x.init(), m.init()); break;
            case 5: write(); due("hold", x.hold(), m.hold()); break;
            default: due("fair " + a + how, x.fair(a, how), m.fair(a, how)); break;
        }
    }

    private static void ask() {
        for (int what = -1; what < 7; what++) {
            due("count " + what, x.count(what), m.count(what));
        }
        for (int i = 0; i < 12; i++) {
            askOne();
        }
    }

    private static void askOne() {
        int total = m.total();
        int s = mostly(total);
        if (below(2) == 0) {
            int what = mostly(6);
            due("state " + s + " " + what, x.state(s, what), m.state(s, what));
        } else {
            int a = mostly(4);
            int t = mostly(total);
            due("leads " + a + " " + s + " " + t, x.leads(a, s, t), m.leads(a, s, t));
        }
    }

    private static void judge() {
        due("empty the draft", x.action(-1), m.action(-1));
        if (below(3) == 0) {
            write();
        } else {
            narrow();
        }
        int d = m.invariant();
        due("invariant", x.invariant(), d);
        note("invariant " + (d > 3 ? "4 and more" : "" + d));
        int n = m.fails();
        due("fails", x.fails(), n);
        int reached = m.count(2);
        note("fails " + (n < 0 ? "refused" : n == 0 ? "none" : n == reached ? "all" : "some"));
        for (int k = -1; k <= m.trace.size(); k++) {
            due("trace " + k, x.trace(k), m.trace(k));
        }
        someFailing();
        for (int i = 0; i < 4; i++) {
            List<Integer> was = new ArrayList<>(m.failing);
            int a = below(4);
            int how = below(3);
            due("fair " + a + how, x.fair(a, how), m.fair(a, how));
            due("fails", x.fails(), m.fails());
            note("fairness " + (was.equals(m.failing) ? "no matter" : "a matter"));
        }
        someFailing();
    }

    private static void allFailing() {
        for (int k = -1; k <= m.failing.size(); k++) {
            due("failing " + k, x.failing(k), m.failing(k));
        }
    }

    private static void someFailing() {
        if (m.failing.size() < 12) {
            allFailing();
            return;
        }
        for (int i = 0; i < 12; i++) {
            int k = mostly(m.failing.size());
            due("failing " + k, x.failing(k), m.failing(k));
        }
    }

    private static void run(int least, int largest) {
        x = new FairChecker();
        m = new Model();
        calls = 0;
        told = new ArrayList<>();
        specify(least, largest);
        if (below(2) == 0) {
            ask();
        }
        while (calls < 200 && wrong == 0) {
            judge();
            changeOne();
            changeOne();
            askOne();
        }
        if (wrong == 0) {
            allFailing();
            ask();
        }
        if (calls > 512) {
            throw new IllegalStateException("a run of " + calls + " calls");
        }
    }

    public static void main(String[] args) {
        for (int i = 0; i < RUNS && wrong == 0; i++) {
            run(i % 8 == 0 ? 4 : 1, i % 8 < 2 ? 5 : i % 8 < 4 ? 2 : 3);
        }
        System.out.println(seen);
        System.out.println(wrong == 0 ? "all answers are as due" : "answers are not as due");
        if (wrong != 0) {
            System.exit(1);
        }
    }
}
