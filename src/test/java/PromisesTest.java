/** For each promise of the document: ordinary inputs, the edges it names, and wrong inputs. */
public final class PromisesTest {
    private static final int[] WRONG = {Integer.MIN_VALUE, -1000, -1, 1000, Integer.MAX_VALUE};

    private static int wrong = 0;
    private static int asked = 0;

    private static void due(String call, int got, int want) {
        asked++;
        if (got != want) {
            wrong++;
            System.out.println(call + " answered " + got + ", due is " + want);
        }
    }

    private static void due(String call, boolean got, boolean want) {
        due(call, got ? 1 : 0, want ? 1 : 0);
    }

    private static void draft(FairChecker x, int... tokens) {
        for (int i = 0; i < tokens.length; i++) {
            due("token in a draft that was empty", x.token(tokens[i]), i + 1);
        }
    }

    private static void guard(FairChecker x, int a, int... tokens) {
        draft(x, tokens);
        due("action " + a, x.action(a), true);
    }

    private static void becomes(FairChecker x, int a, int v, int... tokens) {
        draft(x, tokens);
        due("effect " + a + " " + v, x.effect(a, v, false), true);
    }

    private static void begin(FairChecker x, int... tokens) {
        draft(x, tokens);
        due("init", x.init(), true);
    }

    private static void held(FairChecker x, int... tokens) {
        draft(x, tokens);
        due("hold", x.hold(), true);
    }

    private static void dueCounts(String where, FairChecker x, int... want) {
        for (int what = 0; what < want.length; what++) {
            due(where + ", count " + what, x.count(what), want[what]);
        }
    }

    private static void dueTrace(String where, FairChecker x, int... want) {
        for (int k = 0; k < want.length; k++) {
            due(where + ", trace " + k, x.trace(k), want[k]);
        }
        due(where + ", trace after the end", x.trace(want.length), -1);
        for (int k : WRONG) {
            due(where + ", trace " + k, x.trace(k), -1);
        }
    }

    /** Asks fails with a draft of the tokens and leaves the draft empty; what is held stays. */
    private static void dueFailing(String where, FairChecker x, int[] q, int... want) {
        draft(x, q);
        due(where + ", fails", x.fails(), want.length);
        for (int k = 0; k < want.length; k++) {
            due(where + ", failing " + k, x.failing(k), want[k]);
        }
        due(where + ", failing after the end", x.failing(want.length), -1);
        for (int k : WRONG) {
            due(where + ", failing " + k, x.failing(k), -1);
        }
        empty(x, q.length);
    }

    /** Empties a draft of a known length by an action that is out of range. */
    private static void empty(FairChecker x, int length) {
        due("one token more", x.token(0), length + 1);
        due("action 4", x.action(4), false);
    }

    private static int[] list(int... tokens) {
        return tokens;
    }

    private static FairChecker sized(int n0, int n1, int n2) {
        FairChecker x = new FairChecker();
        due("variable 0", x.variable(0, n0), true);
        due("variable 1", x.variable(1, n1), true);
        due("variable 2", x.variable(2, n2), true);
        return x;
    }

    /** The value of an expression in the state v0 = value, told by where an action leads. */
    private static void dueValue(String what, int[] tokens, int value, int want) {
        FairChecker x = sized(5, 1, 1);
        begin(x, 23, 10, value);
        guard(x, 0, 1);
        becomes(x, 0, 0, tokens);
        for (int t = 0; t < 5; t++) {
            due(what + " with " + value + " leads to " + t, x.leads(0, value, t), t == want);
        }
    }

    private static void newObject() {
        FairChecker x = new FairChecker();
        due("NONE", FairChecker.NONE, -1);
        dueCounts("new", x, 1, 1, 1, 0, 1, 0, -1);
        for (int what = 0; what < 6; what++) {
            due("new, state 0 " + what, x.state(0, what), 0);
        }
        due("new, state 1", x.state(1, 0), -1);
        for (int a = 0; a < 4; a++) {
            due("new, drop " + a, x.drop(a), false);
            due("new, fair " + a, x.fair(a, 0), false);
            due("new, effect " + a, x.effect(a, 0, true), false);
            due("new, leads " + a, x.leads(a, 0, 0), false);
        }
        due("new, trace", x.trace(0), -1);
        due("new, failing", x.failing(0), -1);
        due("new, invariant", x.invariant(), -2);
        due("new, fails", x.fails(), -2);
        due("new, action", x.action(0), false);
        due("new, the draft is empty", x.token(0), 1);
        due("new, nothing is held", x.fails(), 1);
    }

    private static void variable() {
        FairChecker x = new FairChecker();
        for (int v = 0; v < 3; v++) {
            for (int n = 1; n <= 5; n++) {
                due("variable " + v + " " + n, x.variable(v, n), true);
                due("states", x.count(0), n);
            }
            due("variable back", x.variable(v, 1), true);
        }
        due("variable", x.variable(1, 3), true);
        for (int w : WRONG) {
            due("variable " + w, x.variable(w, 2), false);
            due("variable 0 with " + w, x.variable(0, w), false);
        }
        due("variable 3", x.variable(3, 2), false);
        due("variable with 0", x.variable(1, 0), false);
        due("variable with 6", x.variable(1, 6), false);
        due("states", x.count(0), 3);
        x = sized(5, 5, 5);
        due("most states", x.count(0), 125);
        due("last state", x.state(124, 5), 4);
        due("after the last", x.state(125, 5), -1);

        // What is set keeps its meaning with the new values.
        x = sized(2, 1, 1);
        guard(x, 0, 1);
        becomes(x, 0, 0, 3);
        guard(x, 1, 1);
        due("any", x.effect(1, 0, true), true);
        due("3 is 1 of 2", x.leads(0, 0, 1), true);
        due("variable", x.variable(0, 4), true);
        due("3 is 3 of 4", x.leads(0, 0, 3), true);
        due("3 is not 1 of 4", x.leads(0, 0, 1), false);
        due("any of 4", x.leads(1, 0, 3), true);
        begin(x, 23, 10, 3);
        due("variable", x.variable(0, 3), true);
        due("no initial state is left", x.count(1), 0);
    }

    private static void token() {
        FairChecker x = new FairChecker();
        for (int t = -5; t < 40; t++) {
            boolean known = t >= 0 && t <= 4 || t >= 10 && t <= 12 || t >= 20 && t <= 28;
            due("token " + t, x.token(t), known ? 1 : -1);
            due("action", x.action(4), false);
        }
        for (int w : WRONG) {
            due("token " + w, x.token(w), -1);
        }
        draft(x, 1);
        due("token 5", x.token(5), -1);
        due("a token that is none changes nothing", x.action(0), true);
        for (int i = 1; i <= 11; i++) {
            due("NOT " + i, x.token(27), i);
        }
        due("the twelfth", x.token(0), 12);
        due("the thirteenth", x.token(0), -1);
        due("the thirteenth again", x.token(1), -1);
        due("twelve are still an expression", x.action(1), true);
        due("NOT eleven times 0", x.state(0, 2), 3);
        due("the draft was emptied", x.token(4), 1);
    }

    private static void expressions() {
        for (int n = 0; n <= 4; n++) {
            dueValue("number", list(n), 2, n);
            dueValue("variable", list(10), n, n);
        }
        dueValue("+", list(20, 10, 1), 2, 3);
        dueValue("+ over the end", list(20, 10, 3), 4, 2);
        dueValue("- in order", list(21, 10, 1), 4, 3);
        dueValue("- below 0", list(21, 0, 1), 0, 4);
        dueValue("- far below 0", list(21, 0, 22, 4, 4), 0, 4);
        dueValue("- to a whole turn", list(21, 0, 20, 4, 1), 0, 0);
        dueValue("*", list(22, 10, 3), 4, 2);
        dueValue("=", list(23, 10, 3), 3, 1);
        dueValue("= not", list(23, 10, 3), 4, 0);
        dueValue("< less", list(24, 10, 3), 2, 1);
        dueValue("< equal", list(24, 10, 3), 3, 0);
        dueValue("< greater", list(24, 10, 3), 4, 0);
        dueValue("< below 0", list(24, 21, 0, 10, 0), 2, 1);
        for (int a = 0; a < 3; a++) {
            for (int b = 0; b < 3; b++) {
                dueValue("AND " + a, list(25, a, 10), b, a != 0 && b != 0 ? 1 : 0);
                dueValue("OR " + a, list(26, a, 10), b, a != 0 || b != 0 ? 1 : 0);
            }
            dueValue("NOT", list(27, 10), a, a == 0 ? 1 : 0);
            dueValue("IF", list(28, 10, 3, 4), a, a == 0 ? 4 : 3);
        }
        dueValue("IF below 0", list(28, 21, 0, 10, 3, 4), 2, 3);
        dueValue("AND below 0", list(25, 21, 0, 10, 1), 2, 1);
        dueValue("IF of IFs", list(28, 28, 10, 0, 1, 20, 10, 2, 28, 10, 3, 4), 0, 2);
        dueValue("IF of IFs", list(28, 28, 10, 0, 1, 20, 10, 2, 28, 10, 3, 4), 1, 3);
        dueValue("nested", list(21, 22, 10, 10, 20, 10, 2), 3, 4);
        dueValue("deep on the left", list(20, 20, 20, 20, 20, 1, 1, 1, 1, 1, 1), 0, 1);
        dueValue("deep on the right", list(21, 4, 21, 4, 21, 4, 21, 4, 10), 2, 2);
        dueValue("a stack of IFs", list(28, 0, 1, 28, 0, 2, 28, 0, 3, 4), 0, 4);

        FairChecker x = sized(2, 3, 4);
        guard(x, 0, 25, 23, 11, 2, 23, 12, 3);
        for (int s = 0; s < 24; s++) {
            due("guard in " + s, x.state(s, 2), s >= 22 ? 1 : 0);
        }
    }

    private static void drafts() {
        int[][] bad = {{20}, {20, 1}, {1, 1}, {20, 1, 1, 1}, {27}, {27, 1, 1}, {28}, {28, 1}, {28, 1, 1},
            {28, 1, 1, 1, 1}, {1, 20, 1}, {10, 11}, {23, 24, 1, 1}, {27, 27, 27, 27, 27, 27, 27, 27, 27, 27, 27, 27},
            {20, 20, 20, 20, 20, 20, 1, 1, 1, 1, 1, 1}, {1, 20}};
        int[][] good = {{0}, {4}, {12}, {27, 1}, {20, 1, 1}, {28, 1, 1, 1}, {28, 28, 1, 1, 1, 27, 1, 20, 1, 1},
            {27, 27, 27, 27, 27, 27, 27, 27, 27, 27, 27, 1}, {20, 20, 20, 20, 20, 1, 1, 1, 1, 1, 1}};
        for (int which = 0; which < bad.length + good.length; which++) {
            boolean fits = which >= bad.length;
            int[] tokens = fits ? good[which - bad.length] : bad[which];
            String name = "draft " + java.util.Arrays.toString(tokens);
            FairChecker x = new FairChecker();
            guard(x, 0, 1);
            draft(x, tokens);
            due(name + ", invariant", x.invariant() != -2, fits);
            due(name + ", fails", x.fails() != -2, fits);
            due(name + ", action", x.action(1), fits);
            draft(x, tokens);
            due(name + ", effect", x.effect(0, 0, false), fits);
            draft(x, tokens);
            due(name + ", hold", x.hold(), fits);
            draft(x, tokens);
            due(name + ", init", x.init(), fits);
            due(name + ", the draft is empty then", x.token(1), 1);
        }
    }

    private static void action() {
        FairChecker x = sized(3, 1, 1);
        for (int a = 0; a < 4; a++) {
            guard(x, a, 24, 10, a);
            due("there", x.fair(a, 0), true);
        }
        due("guards in 0", x.state(0, 2), 14);
        due("guards in 1", x.state(1, 2), 12);
        due("guards in 2", x.state(2, 2), 8);
        due("all stay", x.state(0, 1), 0);
        due("stays", x.leads(3, 2, 2), true);

        guard(x, 1, 1);
        becomes(x, 1, 0, 0);
        due("leads", x.leads(1, 1, 0), true);
        draft(x, 20, 1);
        due("no expression", x.action(1), false);
        due("nothing", x.action(1), false);
        due("nothing else changed", x.leads(1, 1, 0), true);
        guard(x, 1, 1);
        due("the effect is gone", x.leads(1, 1, 0), false);
        due("it stays now", x.leads(1, 1, 1), true);
        due("any", x.effect(1, 0, true), true);
        due("any", x.leads(1, 1, 2), true);
        guard(x, 1, 1);
        due("any is gone too", x.leads(1, 1, 2), false);

        for (int w : WRONG) {
            draft(x, 1);
            due("action " + w, x.action(w), false);
        }
        draft(x, 1);
        due("action 4", x.action(4), false);
        due("the draft is empty", x.token(1), 1);

        // Its fairness is 0 again when it is set anew, and when it was dropped in between.
        x = sized(2, 1, 1);
        begin(x, 23, 10, 0);
        guard(x, 0, 1);
        becomes(x, 0, 0, 1);
        due("weak", x.fair(0, 1), true);
        dueFailing("weak", x, list(10));
        guard(x, 0, 1);
        becomes(x, 0, 0, 1);
        dueFailing("set anew", x, list(10), 0);
        due("strong", x.fair(0, 2), true);
        due("drop", x.drop(0), true);
        guard(x, 0, 1);
        becomes(x, 0, 0, 1);
        dueFailing("dropped and set anew", x, list(10), 0);
    }

    private static void effect() {
        FairChecker x = sized(2, 3, 4);
        guard(x, 2, 1);
        // Old values: all three go round by one place in one action.
        becomes(x, 2, 0, 11);
        becomes(x, 2, 1, 12);
        becomes(x, 2, 2, 10);
        int from = 1 + 2 * (2 + 3 * 3);
        for (int t = 0; t < 24; t++) {
            due("round to " + t, x.leads(2, from, t), t == 0 + 2 * (0 + 3 * 1));
        }
        due("v0 stays", x.effect(2, 0, false), true);
        for (int t = 0; t < 24; t++) {
            due("v0 stays, to " + t, x.leads(2, from, t), t == 1 + 2 * (0 + 3 * 1));
        }
        due("v2 any", x.effect(2, 2, true), true);
        for (int t = 0; t < 24; t++) {
            due("v2 any, to " + t, x.leads(2, from, t), t % 6 == 1);
        }
        draft(x, 0);
        due("with a draft any is nothing", x.effect(2, 2, true), true);
        for (int t = 0; t < 24; t++) {
            due("v2 is 0, to " + t, x.leads(2, from, t), t == 1);
        }
        due("v2 stays again", x.effect(2, 2, false), true);
        for (int t = 0; t < 24; t++) {
            due("v2 stays, to " + t, x.leads(2, from, t), t == 1 + 2 * (0 + 3 * 3));
        }

        draft(x, 20, 1);
        due("no expression", x.effect(2, 2, true), false);
        draft(x, 1);
        due("variable 3", x.effect(2, 3, false), false);
        due("variable 3, any", x.effect(2, 3, true), false);
        due("action 4", x.effect(4, 0, true), false);
        due("action that is not there", x.effect(1, 0, true), false);
        for (int w : WRONG) {
            draft(x, 1);
            due("effect of variable " + w, x.effect(2, w, false), false);
            draft(x, 1);
            due("effect of action " + w, x.effect(w, 0, false), false);
        }
        due("the draft is empty", x.token(1), 1);
        for (int t = 0; t < 24; t++) {
            due("unchanged, to " + t, x.leads(2, from, t), t == 1 + 2 * (0 + 3 * 3));
        }

        // Effects of different actions lie apart.
        x = sized(5, 1, 1);
        for (int a = 0; a < 4; a++) {
            guard(x, a, 1);
            becomes(x, a, 0, a + 1);
        }
        for (int a = 0; a < 4; a++) {
            for (int t = 0; t < 5; t++) {
                due("action " + a + " to " + t, x.leads(a, 0, t), t == a + 1);
            }
        }
    }

    private static void fair() {
        FairChecker x = new FairChecker();
        guard(x, 3, 1);
        for (int how = 0; how <= 2; how++) {
            due("fair " + how, x.fair(3, how), true);
            due("not there", x.fair(2, how), false);
            due("action 4", x.fair(4, how), false);
        }
        due("how 3", x.fair(3, 3), false);
        for (int w : WRONG) {
            due("how " + w, x.fair(3, w), false);
            due("action " + w, x.fair(w, 1), false);
        }
        x = sized(2, 1, 1);
        begin(x, 23, 10, 0);
        guard(x, 0, 1);
        becomes(x, 0, 0, 1);
        dueFailing("none", x, list(10), 0);
        due("weak", x.fair(0, 1), true);
        dueFailing("weak", x, list(10));
        due("how 3", x.fair(0, 3), false);
        due("how -1", x.fair(0, -1), false);
        dueFailing("still weak", x, list(10));
        due("none again", x.fair(0, 0), true);
        dueFailing("none again", x, list(10), 0);
        due("strong", x.fair(0, 2), true);
        dueFailing("strong", x, list(10));
        draft(x, 1);
        due("fair leaves the draft", x.fair(0, 1), true);
        due("fair leaves the draft", x.token(1), 2);
    }

    private static void drop() {
        FairChecker x = sized(2, 1, 1);
        guard(x, 0, 1);
        becomes(x, 0, 0, 1);
        guard(x, 3, 1);
        due("guards", x.state(0, 2), 9);
        draft(x, 1);
        due("drop", x.drop(0), true);
        due("drop leaves the draft", x.token(1), 2);
        due("empty it", x.action(4), false);
        due("guards", x.state(0, 2), 8);
        due("enabled", x.state(0, 1), 0);
        due("leads no more", x.leads(0, 0, 1), false);
        due("drop again", x.drop(0), false);
        due("not there, fair", x.fair(0, 1), false);
        due("not there, effect", x.effect(0, 0, true), false);
        due("never there", x.drop(1), false);
        due("action 4", x.drop(4), false);
        for (int w : WRONG) {
            due("drop " + w, x.drop(w), false);
        }
        guard(x, 0, 1);
        due("set anew it stays", x.leads(0, 0, 1), false);
        due("set anew it stays", x.leads(0, 0, 0), true);
        due("the other one", x.drop(3), true);
        due("guards", x.state(0, 2), 1);
    }

    private static void init() {
        FairChecker x = sized(4, 1, 1);
        due("none", x.count(1), 4);
        begin(x, 24, 10, 3);
        due("less than 3", x.count(1), 3);
        draft(x, 24, 10);
        due("no expression", x.init(), false);
        due("INIT is as before", x.count(1), 3);
        due("the draft is empty, INIT none", x.init(), true);
        due("none again", x.count(1), 4);
        begin(x, 21, 10, 2);
        due("anything but 0 is TRUE", x.count(1), 3);
        due("state 2 is not initial", x.state(2, 0), -1);
        begin(x, 0);
        dueCounts("no initial state", x, 4, 0, 0, -1, 0, 0, -1);
    }

    private static void hold() {
        FairChecker x = sized(4, 1, 1);
        dueFailing("nothing held", x, list(0), 0, 1, 2, 3);
        held(x, 24, 10, 2);
        dueFailing("less than 2", x, list(0), 0, 1);
        draft(x, 24, 10);
        due("no expression", x.hold(), false);
        dueFailing("held as before", x, list(0), 0, 1);
        held(x, 10);
        dueFailing("anything but 0 is TRUE", x, list(0), 1, 2, 3);
        due("with an empty draft", x.hold(), true);
        dueFailing("nothing held again", x, list(0), 0, 1, 2, 3);
        held(x, 0);
        dueFailing("held for no state", x, list(0));
    }

    private static void count() {
        // From 0 to 1, 2 and 3; from 1 to 4 and back by two actions; from 2 to itself alone.
        FairChecker x = sized(5, 2, 1);
        begin(x, 25, 23, 10, 0, 23, 11, 0);
        guard(x, 0, 24, 10, 1);
        due("any", x.effect(0, 0, true), true);
        guard(x, 1, 23, 10, 1);
        becomes(x, 1, 0, 4);
        guard(x, 2, 23, 10, 4);
        becomes(x, 2, 0, 1);
        guard(x, 3, 23, 10, 4);
        becomes(x, 3, 0, 1);
        dueCounts("five of ten", x, 10, 1, 5, 1, 2, 6, -1);
        for (int w : WRONG) {
            due("count " + w, x.count(w), -1);
        }
        due("drop", x.drop(0), true);
        dueCounts("one of ten", x, 10, 1, 1, 0, 1, 0, -1);

        // A row of 125 states: the greatest depth that there can be.
        x = sized(5, 5, 5);
        begin(x, 23, 20, 10, 20, 11, 12, 0);
        guard(x, 0, 1);
        becomes(x, 0, 0, 20, 10, 1);
        becomes(x, 0, 1, 20, 11, 23, 10, 4);
        becomes(x, 0, 2, 20, 12, 25, 23, 10, 4, 23, 11, 4);
        dueCounts("a long row", x, 125, 1, 125, 124, 0, 125, -1);
        for (int s = 0; s < 125; s++) {
            due("depth of " + s, x.state(s, 0), s);
        }
        draft(x, 27, 25, 23, 10, 4, 25, 23, 11, 4, 23, 12);
        due("the last token", x.token(4), 12);
        due("a breach at the end of the row", x.invariant(), 124);
        for (int k = 0; k < 125; k++) {
            due("trace " + k, x.trace(k), k);
        }
        due("trace 125", x.trace(125), -1);
    }

    private static void state() {
        FairChecker x = sized(2, 3, 4);
        begin(x, 23, 12, 1);
        guard(x, 1, 23, 12, 1);
        becomes(x, 1, 2, 2);
        guard(x, 2, 24, 12, 2);
        guard(x, 3, 1);
        becomes(x, 3, 0, 0);
        for (int s = 0; s < 24; s++) {
            int v0 = s % 2;
            int v1 = s / 2 % 3;
            int v2 = s / 6;
            due("depth of " + s, x.state(s, 0), v2 == 1 ? 0 : v2 == 2 ? 1 : -1);
            due("enabled in " + s, x.state(s, 1), (v2 == 1 ? 2 : 0) + (v0 == 1 ? 8 : 0));
            due("guards in " + s, x.state(s, 2), (v2 == 1 ? 2 : 0) + (v2 < 2 ? 4 : 0) + 8);
            due("v0 of " + s, x.state(s, 3), v0);
            due("v1 of " + s, x.state(s, 4), v1);
            due("v2 of " + s, x.state(s, 5), v2);
            due("what 6 of " + s, x.state(s, 6), -1);
        }
        for (int what = -1; what < 7; what++) {
            due("state 24", x.state(24, what), -1);
            for (int w : WRONG) {
                due("state " + w, x.state(w, what), -1);
            }
        }
        for (int w : WRONG) {
            due("what " + w, x.state(0, w), -1);
        }

        // Each of them is asked first after a change.
        x = sized(2, 1, 1);
        guard(x, 0, 1);
        due("enabled, before the effect", x.state(0, 1), 0);
        becomes(x, 0, 0, 1);
        due("enabled, after the effect", x.state(0, 1), 1);
        begin(x, 10);
        due("depth, with INIT", x.state(0, 0), -1);
        due("none", x.init(), true);
        due("depth, without INIT", x.state(0, 0), 0);
        due("guards", x.state(0, 2), 1);
        due("drop", x.drop(0), true);
        due("no guards", x.state(0, 2), 0);
    }

    private static void leads() {
        FairChecker x = sized(3, 1, 1);
        guard(x, 0, 24, 10, 2);
        due("any", x.effect(0, 0, true), true);
        for (int s = 0; s < 3; s++) {
            for (int t = 0; t < 3; t++) {
                due("leads " + s + " " + t, x.leads(0, s, t), s < 2);
                due("action that is not there", x.leads(1, s, t), false);
            }
            due("to no state", x.leads(0, s, 3), false);
            due("from no state", x.leads(0, 3, s), false);
            for (int w : WRONG) {
                due("to " + w, x.leads(0, s, w), false);
                due("from " + w, x.leads(0, w, s), false);
                due("by " + w, x.leads(w, 0, 0), false);
            }
        }
        due("action 4", x.leads(4, 0, 0), false);
        begin(x, 0);
        due("states that are not reached, too", x.leads(0, 1, 2), true);
    }

    private static void invariantAndTrace() {
        FairChecker x = sized(5, 1, 1);
        begin(x, 24, 10, 2);
        guard(x, 0, 24, 10, 4);
        becomes(x, 0, 0, 20, 10, 1);
        draft(x, 24, 10, 4);
        dueTrace("none yet", x);
        due("4 is reached", x.invariant(), 3);
        dueTrace("to 4", x, 1, 2, 3, 4);
        due("the draft stays", x.invariant(), 3);
        due("the draft stays", x.token(0), 4);
        due("no expression", x.invariant(), -2);
        dueTrace("refused, the trace stays", x, 1, 2, 3, 4);
        due("empty it", x.action(4), false);
        due("an empty draft", x.invariant(), -2);
        draft(x, 1);
        due("holds always", x.invariant(), -1);
        dueTrace("no breach, the trace stays", x, 1, 2, 3, 4);
        empty(x, 1);
        due("drop", x.drop(0), true);
        due("variable", x.variable(0, 1), true);
        dueTrace("another specification, the trace stays", x, 1, 2, 3, 4);
        draft(x, 0);
        due("an initial state", x.invariant(), 0);
        dueTrace("a shorter one", x, 0);
        empty(x, 1);

        // Breaches that are not reached count for nothing; anything but 0 is TRUE.
        x = sized(5, 1, 1);
        begin(x, 23, 10, 3);
        draft(x, 21, 10, 4);
        due("4 is not reached, and -1 is TRUE", x.invariant(), -1);
        empty(x, 3);
        draft(x, 23, 10, 4);
        due("3 is not 4", x.invariant(), 0);
        dueTrace("3", x, 3);

        // The row comes first by its first state, even if later ones are greater, and the
        // first state of all leads to no breach in so few steps.
        x = sized(5, 2, 1);
        begin(x, 24, 20, 10, 11, 2);
        guard(x, 0, 23, 10, 0);
        becomes(x, 0, 0, 28, 11, 2, 3);
        guard(x, 1, 23, 10, 3);
        becomes(x, 1, 0, 4);
        guard(x, 2, 23, 10, 1);
        becomes(x, 2, 0, 2);
        guard(x, 3, 23, 10, 2);
        due("any", x.effect(3, 0, true), true);
        draft(x, 24, 10, 4);
        due("two steps", x.invariant(), 2);
        dueTrace("first by the first state", x, 0, 3, 4);
        due("empty it", x.action(4), false);
        due("drop", x.drop(1), true);
        draft(x, 24, 10, 4);
        due("two steps, from another one", x.invariant(), 2);
        dueTrace("the first initial one leads to none", x, 1, 2, 4);
        empty(x, 3);

        // Among the same first states the second decides, and the greedy one leads nowhere.
        x = sized(5, 1, 1);
        begin(x, 23, 10, 0);
        guard(x, 0, 23, 10, 0);
        due("any", x.effect(0, 0, true), true);
        guard(x, 1, 25, 24, 1, 10, 24, 10, 4);
        becomes(x, 1, 0, 4);
        draft(x, 24, 10, 4);
        due("straight", x.invariant(), 1);
        dueTrace("straight", x, 0, 4);
        due("empty it", x.action(4), false);
        becomes(x, 0, 0, 28, 10, 10, 3);
        guard(x, 2, 23, 10, 0);
        becomes(x, 2, 0, 1);
        guard(x, 3, 23, 10, 0);
        becomes(x, 3, 0, 2);
        draft(x, 24, 10, 4);
        due("over 2 or 3", x.invariant(), 2);
        dueTrace("over 2, as 1 leads nowhere", x, 0, 2, 4);
    }

    private static void failsAndFailing() {
        FairChecker x = sized(4, 1, 1);
        dueFailing("no actions", x, list(23, 10, 1), 0, 2, 3);
        due("an empty draft", x.fails(), -2);
        due("refused, they stay", x.failing(2), 3);
        due("refused, they stay", x.failing(3), -1);
        draft(x, 23, 10);
        due("no expression", x.fails(), -2);
        due("refused, they stay", x.failing(0), 0);
        due("the draft stays", x.token(1), 3);
        due("the draft stays", x.fails(), 3);
        due("empty it", x.action(4), false);
        due("variable", x.variable(0, 1), true);
        due("another specification, they stay", x.failing(2), 3);
        begin(x, 0);
        dueFailing("none reached", x, list(0));

        // Q in the state itself, and only reached states.
        x = sized(4, 1, 1);
        begin(x, 24, 10, 2);
        dueFailing("two reached", x, list(23, 10, 0), 1);
        dueFailing("Q is TRUE, whatever it is", x, list(20, 10, 1));
        dueFailing("Q is never TRUE", x, list(0), 0, 1);
    }

    /** Weak and strong: two states, and an action that is enabled in one of them alone. */
    private static void weakAndStrong() {
        FairChecker x = sized(2, 2, 1);
        begin(x, 23, 20, 10, 11, 0);
        guard(x, 0, 27, 11);
        becomes(x, 0, 0, 21, 1, 10);
        guard(x, 1, 25, 10, 27, 11);
        becomes(x, 1, 1, 1);
        int[] q = list(11);
        dueFailing("stuttering", x, q, 0, 1);
        due("weak", x.fair(1, 1), true);
        dueFailing("weak, disabled in 0", x, q, 0, 1);
        due("weak", x.fair(0, 1), true);
        dueFailing("weak, going round", x, q, 0, 1);
        due("strong", x.fair(1, 2), true);
        dueFailing("strong, enabled in 1", x, q);
        due("none", x.fair(0, 0), true);
        dueFailing("strong, but staying in 0", x, q, 0, 1);
        held(x, 10);
        dueFailing("strong, staying in 0, held in 1", x, q, 1);
        due("drop", x.drop(0), true);
        dueFailing("only 0 is reached", x, q);
        due("nothing held", x.hold(), true);
        dueFailing("only 0 is reached", x, q, 0);

        // A strong action is taken by a step of another one that leads the same way.
        x = sized(2, 1, 1);
        guard(x, 0, 1);
        becomes(x, 0, 0, 21, 1, 10);
        guard(x, 1, 23, 10, 0);
        becomes(x, 1, 0, 1);
        due("strong", x.fair(1, 2), true);
        due("weak", x.fair(0, 1), true);
        dueFailing("going round takes both", x, list(0), 0, 1);
        dueFailing("weak leaves 0", x, list(23, 10, 1));
        dueFailing("weak leaves 1", x, list(23, 10, 0));

        // A step to the state itself is not taking, and an action that leads nowhere else is
        // not enabled.
        x = sized(2, 1, 1);
        guard(x, 0, 1);
        due("any", x.effect(0, 0, true), true);
        due("strong", x.fair(0, 2), true);
        dueFailing("must go to the other one", x, list(10));
        due("stays", x.effect(0, 0, false), true);
        dueFailing("never enabled", x, list(10), 0);
        due("weak", x.fair(0, 1), true);
        dueFailing("never enabled", x, list(10), 0);
    }

    /** A strong action that is starved in the whole is no matter in a part where it is not enabled. */
    private static void strongInParts() {
        // 0 -> 1 -> 2 -> 3 -> 0 round and round, 1 and 2 back and forth; from 0 to 4, which is Q.
        FairChecker x = sized(5, 1, 1);
        begin(x, 23, 10, 0);
        guard(x, 0, 24, 10, 4);
        becomes(x, 0, 0, 28, 23, 10, 3, 0, 20, 10, 1);
        guard(x, 1, 23, 10, 2);
        becomes(x, 1, 0, 1);
        guard(x, 2, 23, 10, 0);
        becomes(x, 2, 0, 4);
        int[] q = list(23, 10, 4);
        due("strong", x.fair(2, 2), true);
        due("weak", x.fair(0, 1), true);
        dueFailing("back and forth", x, q, 0, 1, 2, 3);
        due("drop", x.drop(1), true);
        dueFailing("only round", x, q);
        // The part that is left must be fair to the weak ones too.
        guard(x, 1, 23, 10, 2);
        becomes(x, 1, 0, 1);
        guard(x, 3, 25, 24, 0, 10, 24, 10, 3);
        becomes(x, 3, 0, 3);
        due("weak", x.fair(3, 1), true);
        dueFailing("always enabled in 1 and 2, and not taken", x, q);
        due("none", x.fair(3, 0), true);
        dueFailing("no matter without fairness", x, q, 0, 1, 2, 3);
    }

    /** Everything in one component of 125 states, over the seam of 64. */
    private static void largest() {
        FairChecker x = sized(5, 5, 5);
        guard(x, 0, 1);
        becomes(x, 0, 0, 20, 10, 1);
        becomes(x, 0, 1, 20, 11, 23, 10, 4);
        becomes(x, 0, 2, 20, 12, 25, 23, 10, 4, 23, 11, 4);
        guard(x, 1, 25, 23, 10, 4, 23, 12, 4);
        due("strong", x.fair(1, 2), true);
        due("weak", x.fair(0, 1), true);
        draft(x, 0);
        due("going round", x.fails(), 125);
        for (int k = 0; k < 125; k++) {
            due("failing " + k, x.failing(k), k);
        }
        due("failing 125", x.failing(125), -1);
        empty(x, 1);

        // With 0 cut out, a third action closes the way round from 124 to 1; the second one
        // would lead to 0 from five of the states on it.
        becomes(x, 1, 0, 0);
        becomes(x, 1, 1, 0);
        becomes(x, 1, 2, 0);
        guard(x, 2, 25, 23, 10, 4, 25, 23, 11, 4, 23, 12, 4);
        becomes(x, 2, 0, 1);
        becomes(x, 2, 1, 0);
        becomes(x, 2, 2, 0);
        int[] zero = list(23, 20, 10, 20, 11, 12, 0);
        dueFailing("strong, never taken", x, zero);
        due("weak", x.fair(1, 1), true);
        int[] others = new int[124];
        for (int k = 0; k < 124; k++) {
            others[k] = k + 1;
        }
        dueFailing("weak, not always enabled", x, zero, others);
        due("the way round is cut", x.drop(2), true);
        dueFailing("the way round is cut", x, zero);
    }

    private static void limits() {
        FairChecker x = sized(3, 1, 1);
        guard(x, 0, 1);
        draft(x, 20, 10, 1);
        due("questions leave the draft", x.count(2), 3);
        due("questions leave the draft", x.state(0, 0), 0);
        due("questions leave the draft", x.leads(0, 0, 0), true);
        due("questions leave the draft", x.trace(0), -1);
        due("questions leave the draft", x.failing(0), -1);
        due("questions leave the draft", x.variable(1, 2), true);
        due("questions leave the draft", x.variable(1, 0), false);
        due("questions leave the draft", x.fair(0, 0), true);
        due("questions leave the draft", x.drop(1), false);
        due("questions leave the draft", x.invariant(), -1);
        due("questions leave the draft", x.fails(), 0);
        due("it is still 20 10 1", x.effect(0, 0, false), true);
        due("it is still 20 10 1", x.leads(0, 1, 2), true);
        for (int which = 0; which < 5; which++) {
            draft(x, 20, 1);
            switch (which) {
                case 0:
                    due("refused", x.action(0), false);
                    break;
                case 1:
                    due("refused", x.effect(0, 0, true), false);
                    break;
                case 2:
                    due("refused", x.init(), false);
                    break;
                case 3:
                    due("refused", x.hold(), false);
                    break;
                default:
                    due("refused", x.effect(9, 9, true), false);
                    break;
            }
        }
        due("the draft is empty", x.token(0), 1);
        due("the draft is empty", x.effect(1, 0, true), false);
        due("all is as it was", x.leads(0, 1, 2), true);
        due("all is as it was", x.leads(0, 1, 0), false);
        due("all is as it was", x.count(1), 6);
        dueFailing("all is as it was", x, list(0), 0, 1, 2, 3, 4, 5);

        // Two objects have nothing in common.
        FairChecker y = new FairChecker();
        dueCounts("another object", y, 1, 1, 1, 0, 1, 0, -1);
        due("another object", y.failing(0), -1);
        due("another object", y.token(0), 1);
    }

    public static void main(String[] args) {
        newObject();
        variable();
        token();
        expressions();
        drafts();
        action();
        effect();
        fair();
        drop();
        init();
        hold();
        count();
        state();
        leads();
        invariantAndTrace();
        failsAndFailing();
        weakAndStrong();
        strongInParts();
        largest();
        limits();
        System.out.println(asked + " answers, " + wrong + " not as due");
        if (wrong != 0) {
            System.exit(1);
        }
    }
}
