/**
 * A checker for small specifications: reached states, invariants with shortest traces, and what
 * must come to be on all behaviours that are fair to the actions.
 *
 * Nothing that follows from the specification is kept between calls: each question draws the
 * steps anew, so that no change of the specification can leave an old answer behind. Only the
 * latest trace and the latest failing states stay, because the document asks for that.
 */
public final class FairChecker {
    public static final int NONE = -1;

    private static final int NO_EXPRESSION = -2;

    private static final int VARIABLES = 3;
    private static final int MOST_VALUES = 5;
    private static final int MOST_STATES = 125;
    private static final int MOST_PAIRS = MOST_STATES * MOST_STATES;
    private static final int ACTIONS = 4;
    private static final int EFFECTS = ACTIONS * VARIABLES;

    private static final int WEAK = 1;
    private static final int STRONG = 2;

    private static final int LAST_NUMBER = 4;
    private static final int FIRST_VARIABLE = 10;
    private static final int LAST_VARIABLE = 12;
    private static final int PLUS = 20;
    private static final int MINUS = 21;
    private static final int TIMES = 22;
    private static final int EQUAL = 23;
    private static final int LESS = 24;
    private static final int AND = 25;
    private static final int OR = 26;
    private static final int NOT = 27;
    private static final int IF = 28;

    /** Every expression, the draft too, lies in a slot of its own; one of length 0 is none. */
    private static final int LONGEST = 12;
    private static final int DRAFT = 0;
    private static final int INIT = 1;
    private static final int HELD = 2;
    private static final int GUARD = 3;
    private static final int EFFECT = GUARD + ACTIONS;
    private static final int SLOTS = EFFECT + EFFECTS;
    private static final int ALL_TOKENS = SLOTS * LONGEST;

    private static final int WORD = 64;
    private static final int ROW_WORDS = 2;
    private static final int ALL_WORDS = MOST_STATES * ROW_WORDS;

    // The specification. An action is there as long as its guard's slot is not empty.
    private final int[] sizes = new int[VARIABLES];
    private final int[] tokens = new int[ALL_TOKENS];
    private final int[] lengths = new int[SLOTS];
    private final boolean[] anyValue = new boolean[EFFECTS];
    private final int[] fairness = new int[ACTIONS];

    // Working space for one expression, and for where one action leads from one state.
    private final int[] stack = new int[LONGEST];
    private final int[] lowest = new int[VARIABLES];
    private final int[] highest = new int[VARIABLES];

    // What explore finds. Sets of actions are sums of 2^a; a pair s, t lies at s * MOST_STATES + t.
    private final int[] moves = new int[MOST_PAIRS];
    private final int[] enabled = new int[MOST_STATES];
    private final int[] depth = new int[MOST_STATES];

    // Working space of fails.
    private final boolean[] calm = new boolean[MOST_STATES];
    private final boolean[] recurring = new boolean[MOST_STATES];
    private final long[] reach = new long[ALL_WORDS];
    private final int[] home = new int[MOST_STATES];
    private final int[] alwaysEnabled = new int[MOST_STATES];
    private final int[] taken = new int[MOST_STATES];

    // Working space of invariant.
    private final boolean[] onWay = new boolean[MOST_STATES];

    // What the latest invariant and the latest fails leave behind.
    private final int[] traceStates = new int[MOST_STATES];
    private int traceLength = 0;
    private final int[] failingStates = new int[MOST_STATES];
    private int failingCount = 0;

    public FairChecker() {
        for (int v = 0; v < VARIABLES; v++) {
            sizes[v] = 1;
        }
    }

    public boolean variable(int v, int n) {
        if (v < 0 || v >= VARIABLES || n < 1 || n > MOST_VALUES) {
            return false;
        }
        sizes[v] = n;
        return true;
    }

    public int token(int t) {
        boolean number = t >= 0 && t <= LAST_NUMBER;
        boolean name = t >= FIRST_VARIABLE && t <= LAST_VARIABLE;
        boolean operator = t >= PLUS && t <= IF;
        if (!(number || name || operator) || lengths[DRAFT] >= LONGEST) {
            return NONE;
        }
        tokens[DRAFT * LONGEST + lengths[DRAFT]] = t;
        lengths[DRAFT]++;
        return lengths[DRAFT];
    }

    public boolean action(int a) {
        boolean fits = a >= 0 && a < ACTIONS && draftIsExpression();
        if (fits) {
            fairness[a] = 0;
            for (int v = 0; v < VARIABLES; v++) {
                lengths[EFFECT + a * VARIABLES + v] = 0;
                anyValue[a * VARIABLES + v] = false;
            }
        }
        return useDraft(GUARD + a, fits);
    }

    public boolean effect(int a, int v, boolean any) {
        boolean known = isThere(a) && v >= 0 && v < VARIABLES;
        boolean fits = known && draftIsExpressionOrEmpty();
        if (fits) {
            anyValue[a * VARIABLES + v] = any;
        }
        return useDraft(EFFECT + a * VARIABLES + v, fits);
    }

    public boolean fair(int a, int how) {
        if (!isThere(a) || how < 0 || how > STRONG) {
            return false;
        }
        fairness[a] = how;
        return true;
    }

    public boolean drop(int a) {
        if (!isThere(a)) {
            return false;
        }
        lengths[GUARD + a] = 0;
        return true;
    }

    public boolean init() {
        boolean fits = draftIsExpressionOrEmpty();
        return useDraft(INIT, fits);
    }

    public boolean hold() {
        boolean fits = draftIsExpressionOrEmpty();
        return useDraft(HELD, fits);
    }

    public int count(int what) {
        if (what < 0 || what > 5) {
            return NONE;
        }
        explore();
        int total = numberOfStates();
        int answer = what == 3 ? NONE : 0;
        for (int s = 0; s < total; s++) {
            boolean reached = depth[s] >= 0;
            switch (what) {
                case 0:
                    answer++;
                    break;
                case 1:
                    answer += depth[s] == 0 ? 1 : 0;
                    break;
                case 2:
                    answer += reached ? 1 : 0;
                    break;
                case 3:
                    answer = depth[s] > answer ? depth[s] : answer;
                    break;
                case 4:
                    answer += reached && enabled[s] == 0 ? 1 : 0;
                    break;
                default:
                    answer += reached ? waysOut(s) : 0;
                    break;
            }
        }
        return answer;
    }

    public int state(int s, int what) {
        if (!isState(s)) {
            return NONE;
        }
        switch (what) {
            case 0:
                explore();
                return depth[s];
            case 1:
                explore();
                return enabled[s];
            case 2:
                return trueGuards(s);
            case 3:
            case 4:
            case 5:
                return valueIn(s, what - 3);
            default:
                return NONE;
        }
    }

    public boolean leads(int a, int s, int t) {
        if (!isThere(a) || !isState(s) || !isState(t)) {
            return false;
        }
        explore();
        return (moves[s * MOST_STATES + t] >> a & 1) == 1;
    }

    public int invariant() {
        if (!draftIsExpression()) {
            return NO_EXPRESSION;
        }
        explore();
        int least = leastDepthOfBreach();
        if (least >= 0) {
            markWaysToBreach(least);
            keepFirstTrace(least);
        }
        return least;
    }

    public int trace(int k) {
        return k >= 0 && k < traceLength ? traceStates[k] : NONE;
    }

    public int fails() {
        if (!draftIsExpression()) {
            return NO_EXPRESSION;
        }
        explore();
        int total = numberOfStates();
        for (int s = 0; s < total; s++) {
            calm[s] = depth[s] >= 0 && !isTrue(DRAFT, s);
            recurring[s] = calm[s];
        }
        // Each round but the last takes a state away, so there can't be more than total + 1.
        boolean changed = true;
        for (int round = 0; changed && round <= total; round++) {
            changed = removeUnfair();
        }
        keepFailing();
        return failingCount;
    }

    public int failing(int k) {
        return k >= 0 && k < failingCount ? failingStates[k] : NONE;
    }

    private boolean isThere(int a) {
        return a >= 0 && a < ACTIONS && lengths[GUARD + a] > 0;
    }

    private int numberOfStates() {
        return sizes[0] * sizes[1] * sizes[2];
    }

    private boolean isState(int s) {
        return s >= 0 && s < numberOfStates();
    }

    private int valueIn(int s, int v) {
        int rest = s;
        for (int u = 0; u < v; u++) {
            rest /= sizes[u];
        }
        return rest % sizes[v];
    }

    private int operands(int t) {
        if (t < PLUS) {
            return 0;
        }
        if (t == NOT) {
            return 1;
        }
        return t == IF ? 3 : 2;
    }

    private boolean draftIsExpression() {
        int missing = 1;
        for (int i = 0; i < lengths[DRAFT]; i++) {
            if (missing == 0) {
                return false;
            }
            missing += operands(tokens[DRAFT * LONGEST + i]) - 1;
        }
        return missing == 0;
    }

    private boolean draftIsExpressionOrEmpty() {
        return lengths[DRAFT] == 0 || draftIsExpression();
    }

    /** The draft is empty then even if it does not fit: promise 17 asks for that. */
    private boolean useDraft(int slot, boolean fits) {
        if (fits) {
            for (int i = 0; i < lengths[DRAFT]; i++) {
                tokens[slot * LONGEST + i] = tokens[DRAFT * LONGEST + i];
            }
            lengths[slot] = lengths[DRAFT];
        }
        lengths[DRAFT] = 0;
        return fits;
    }

    /** An empty slot is TRUE: no INIT allows all states, and nothing held asks for nothing. */
    private boolean isTrue(int slot, int s) {
        return lengths[slot] == 0 || work(slot, s) != 0;
    }

    /**
     * Read from its end, a prefix list needs no recursion: an operator finds its operands on the
     * stack, the first one on top. Slots hold expressions alone, so they are always there.
     */
    private int work(int slot, int s) {
        int top = 0;
        for (int i = lengths[slot] - 1; i >= 0; i--) {
            int t = tokens[slot * LONGEST + i];
            top -= operands(t);
            if (t <= LAST_NUMBER) {
                stack[top] = t;
            } else if (t <= LAST_VARIABLE) {
                stack[top] = valueIn(s, t - FIRST_VARIABLE);
            } else if (t == NOT) {
                stack[top] = stack[top] == 0 ? 1 : 0;
            } else if (t == IF) {
                stack[top] = stack[top + 2] != 0 ? stack[top + 1] : stack[top];
            } else {
                stack[top] = combine(t, stack[top + 1], stack[top]);
            }
            top++;
        }
        return stack[0];
    }

    private int combine(int t, int a, int b) {
        switch (t) {
            case PLUS:
                return a + b;
            case MINUS:
                return a - b;
            case TIMES:
                return a * b;
            case EQUAL:
                return a == b ? 1 : 0;
            case LESS:
                return a < b ? 1 : 0;
            case AND:
                return a != 0 && b != 0 ? 1 : 0;
            case OR:
                return a != 0 || b != 0 ? 1 : 0;
            default:
                return 0;
        }
    }

    private int trueGuards(int s) {
        int sum = 0;
        for (int a = 0; a < ACTIONS; a++) {
            if (isThere(a) && work(GUARD + a, s) != 0) {
                sum |= 1 << a;
            }
        }
        return sum;
    }

    /** Draws all steps but stuttering, what is enabled where, and the depths. */
    private void explore() {
        int total = numberOfStates();
        for (int s = 0; s < total; s++) {
            for (int t = 0; t < total; t++) {
                moves[s * MOST_STATES + t] = 0;
            }
            int guards = trueGuards(s);
            for (int a = 0; a < ACTIONS; a++) {
                if ((guards >> a & 1) == 1) {
                    boundTargets(a, s);
                    addMoves(a, s);
                }
            }
            enabled[s] = 0;
            for (int t = 0; t < total; t++) {
                enabled[s] |= t == s ? 0 : moves[s * MOST_STATES + t];
            }
        }
        findDepths();
    }

    private void boundTargets(int a, int s) {
        for (int v = 0; v < VARIABLES; v++) {
            int e = a * VARIABLES + v;
            if (lengths[EFFECT + e] > 0) {
                int rest = work(EFFECT + e, s) % sizes[v];
                lowest[v] = rest < 0 ? rest + sizes[v] : rest;
                highest[v] = lowest[v];
            } else if (anyValue[e]) {
                lowest[v] = 0;
                highest[v] = sizes[v] - 1;
            } else {
                lowest[v] = valueIn(s, v);
                highest[v] = lowest[v];
            }
        }
    }

    private void addMoves(int a, int s) {
        for (int z = lowest[2]; z <= highest[2]; z++) {
            for (int y = lowest[1]; y <= highest[1]; y++) {
                for (int x = lowest[0]; x <= highest[0]; x++) {
                    int t = x + sizes[0] * (y + sizes[1] * z);
                    moves[s * MOST_STATES + t] |= 1 << a;
                }
            }
        }
    }

    private void findDepths() {
        int total = numberOfStates();
        for (int s = 0; s < total; s++) {
            depth[s] = isTrue(INIT, s) ? 0 : NONE;
        }
        for (int d = 0; d < total; d++) {
            for (int s = 0; s < total; s++) {
                if (depth[s] == d) {
                    deepenFrom(s);
                }
            }
        }
    }

    private void deepenFrom(int s) {
        int total = numberOfStates();
        for (int t = 0; t < total; t++) {
            if (depth[t] < 0 && moves[s * MOST_STATES + t] != 0) {
                depth[t] = depth[s] + 1;
            }
        }
    }

    private int waysOut(int s) {
        int total = numberOfStates();
        int ways = 0;
        for (int t = 0; t < total; t++) {
            if (t != s && moves[s * MOST_STATES + t] != 0) {
                ways++;
            }
        }
        return ways;
    }

    private int leastDepthOfBreach() {
        int total = numberOfStates();
        int least = NONE;
        for (int s = 0; s < total; s++) {
            boolean nearer = depth[s] >= 0 && (least < 0 || depth[s] < least);
            if (nearer && !isTrue(DRAFT, s)) {
                least = depth[s];
            }
        }
        return least;
    }

    /**
     * No breach is nearer than d, so on a row of d steps to one the state at place k has depth k:
     * it is enough to go back from depth to depth.
     */
    private void markWaysToBreach(int d) {
        int total = numberOfStates();
        for (int s = 0; s < total; s++) {
            onWay[s] = depth[s] == d && !isTrue(DRAFT, s);
        }
        for (int k = d - 1; k >= 0; k--) {
            for (int s = 0; s < total; s++) {
                if (depth[s] == k) {
                    onWay[s] = firstOnWay(s, k + 1) >= 0;
                }
            }
        }
    }

    /** The first state of depth k that is on a way and to which a step leads from s. */
    private int firstOnWay(int s, int k) {
        int total = numberOfStates();
        for (int t = 0; t < total; t++) {
            if (depth[t] == k && onWay[t] && moves[s * MOST_STATES + t] != 0) {
                return t;
            }
        }
        return NONE;
    }

    private void keepFirstTrace(int d) {
        int total = numberOfStates();
        int s = 0;
        for (int i = total - 1; i >= 0; i--) {
            if (depth[i] == 0 && onWay[i]) {
                s = i;
            }
        }
        traceStates[0] = s;
        for (int k = 1; k <= d; k++) {
            s = firstOnWay(s, k);
            traceStates[k] = s;
        }
        traceLength = d + 1;
    }

    /**
     * What a behaviour visits endlessly often lies within one component of the recurring states.
     * Takes away those that it then can't visit so if it is fair; true if there were any. When
     * none are left to take, going round a whole component for ever is fair.
     */
    private boolean removeUnfair() {
        closeSteps(recurring);
        findHomes();
        sumUpHomes();
        int weak = actionsWithFairness(WEAK);
        int strong = actionsWithFairness(STRONG);
        int total = numberOfStates();
        boolean changed = false;
        for (int s = 0; s < total; s++) {
            if (recurring[s]) {
                int h = home[s];
                int starvedWeak = weak & alwaysEnabled[h] & ~taken[h];
                int starvedStrong = strong & enabled[s] & ~taken[h];
                if (starvedWeak != 0 || starvedStrong != 0) {
                    recurring[s] = false;
                    changed = true;
                }
            }
        }
        return changed;
    }

    private int actionsWithFairness(int how) {
        int sum = 0;
        for (int a = 0; a < ACTIONS; a++) {
            if (isThere(a) && fairness[a] == how) {
                sum |= 1 << a;
            }
        }
        return sum;
    }

    /** Which states are reached from which by steps that stay within some states. */
    private void closeSteps(boolean[] within) {
        int total = numberOfStates();
        for (int s = 0; s < total; s++) {
            reach[s * ROW_WORDS] = 0L;
            reach[s * ROW_WORDS + 1] = 0L;
            for (int t = 0; t < total; t++) {
                boolean step = s == t || moves[s * MOST_STATES + t] != 0;
                if (step && within[s] && within[t]) {
                    reach[s * ROW_WORDS + t / WORD] |= 1L << t % WORD;
                }
            }
        }
        for (int m = 0; m < total; m++) {
            for (int s = 0; s < total; s++) {
                if (reaches(s, m)) {
                    reach[s * ROW_WORDS] |= reach[m * ROW_WORDS];
                    reach[s * ROW_WORDS + 1] |= reach[m * ROW_WORDS + 1];
                }
            }
        }
    }

    private boolean reaches(int s, int t) {
        return (reach[s * ROW_WORDS + t / WORD] >>> t % WORD & 1L) == 1L;
    }

    /** A component is named by its first state, the home of all its states. */
    private void findHomes() {
        int total = numberOfStates();
        for (int s = 0; s < total; s++) {
            home[s] = s;
            for (int t = s - 1; t >= 0; t--) {
                if (reaches(s, t) && reaches(t, s)) {
                    home[s] = t;
                }
            }
        }
    }

    private void sumUpHomes() {
        int total = numberOfStates();
        for (int h = 0; h < total; h++) {
            alwaysEnabled[h] = enabled[h];
            taken[h] = 0;
        }
        for (int s = 0; s < total; s++) {
            int h = home[s];
            alwaysEnabled[h] &= enabled[s];
            for (int t = 0; t < total; t++) {
                if (t != s && home[t] == h) {
                    taken[h] |= moves[s * MOST_STATES + t];
                }
            }
        }
    }

    /** Fairness asks nothing of a beginning, so any calm way to a recurring state will do. */
    private void keepFailing() {
        closeSteps(calm);
        int total = numberOfStates();
        failingCount = 0;
        for (int s = 0; s < total; s++) {
            if (calm[s] && isTrue(HELD, s) && reachesRecurring(s)) {
                failingStates[failingCount] = s;
                failingCount++;
            }
        }
    }

    private boolean reachesRecurring(int s) {
        int total = numberOfStates();
        for (int t = 0; t < total; t++) {
            if (recurring[t] && reaches(s, t)) {
                return true;
            }
        }
        return false;
    }
}
