import java.util.ArrayList;
import java.util.Arrays;
import java.util.List;
import java.util.function.Consumer;

/**
 * Each sentence of the document that names a boundary case has a test of its own here: it quotes
 * the sentence and asks at the boundary and just beyond it.
 */
public final class BoundariesTest {
    private static final int LEAST = Integer.MIN_VALUE;
    private static final int MOST = Integer.MAX_VALUE;
    private static final int[][] NO_EXPRESSIONS = {
        {20}, {20, 1}, {27}, {28, 1}, {28, 1, 1}, {1, 1}, {1, 20, 1}, {27, 1, 1}, {20, 1, 1, 1}, {28, 1, 1, 1, 1},
        {27, 27, 27, 27, 27, 27, 27, 27, 27, 27, 27, 27}, {0, 0, 0, 0, 0, 0, 0, 0, 0, 0, 0, 0},
        {20, 20, 20, 20, 20, 20, 1, 1, 1, 1, 1, 1}, {20, 20, 20, 20, 20, 1, 1, 1, 1, 1, 1, 1}};

    private static String sentence = "";
    private static int sentences = 0;
    private static int asked = 0;
    private static int wrong = 0;

    private static void quote(String where, String words) {
        sentence = where + ": " + words;
        sentences++;
    }

    private static void tell(boolean fine, String what) {
        asked++;
        if (!fine) {
            wrong++;
            System.out.println(sentence + "\n    " + what);
        }
    }

    /** One object with what it was asked; each call names the answer that is due. */
    private static final class Run {
        final FairChecker x = new FairChecker();
        private final StringBuilder told = new StringBuilder();
        private int calls = 0;

        private Run due(String call, int got, int want) {
            calls++;
            told.append(call).append(" -> ").append(got).append("; ");
            tell(got == want, told + "due is " + want);
            tell(calls <= 512, "a run of more than 512 calls promises nothing");
            return this;
        }

        private Run due(String call, boolean got, boolean want) {
            return due(call, got ? 1 : 0, want ? 1 : 0);
        }

        Run variable(int v, int n, boolean want) {
            return due("variable " + v + " " + n, x.variable(v, n), want);
        }

        Run token(int t, int want) {
            return due("token " + t, x.token(t), want);
        }

        Run action(int a, boolean want) {
            return due("action " + a, x.action(a), want);
        }

        Run effect(int a, int v, boolean any, boolean want) {
            return due("effect " + a + " " + v + " " + any, x.effect(a, v, any), want);
        }

        Run fair(int a, int how, boolean want) {
            return due("fair " + a + " " + how, x.fair(a, how), want);
        }

        Run drop(int a, boolean want) {
            return due("drop " + a, x.drop(a), want);
        }

        Run init(boolean want) {
            return due("init", x.init(), want);
        }

        Run hold(boolean want) {
            return due("hold", x.hold(), want);
        }

        Run count(int what, int want) {
            return due("count " + what, x.count(what), want);
        }

        Run state(int s, int what, int want) {
            return due("state " + s + " " + what, x.state(s, what), want);
        }

        Run leads(int a, int s, int t, boolean want) {
            return due("leads " + a + " " + s + " " + t, x.leads(a, s, t), want);
        }

        Run invariant(int want) {
            return due("invariant", x.invariant(), want);
        }

        Run trace(int k, int want) {
            return due("trace " + k, x.trace(k), want);
        }

        Run fails(int want) {
            return due("fails", x.fails(), want);
        }

        Run failing(int k, int want) {
            return due("failing " + k, x.failing(k), want);
        }

        /** Tokens into a draft that is empty. */
        Run draft(int... tokens) {
            for (int i = 0; i < tokens.length; i++) {
                token(tokens[i], i + 1);
            }
            return this;
        }

        Run empty() {
            return action(-1, false);
        }

        Run sizes(int n0, int n1, int n2) {
            return variable(0, n0, true).variable(1, n1, true).variable(2, n2, true);
        }

        Run guard(int a, int... tokens) {
            return draft(tokens).action(a, true);
        }

        Run becomes(int a, int v, int... tokens) {
            return draft(tokens).effect(a, v, false, true);
        }

        Run begins(int... tokens) {
            return draft(tokens).init(true);
        }

        Run holds(int... tokens) {
            return draft(tokens).hold(true);
        }

        /** By action a to these states and no others; the states are 0..total - 1. */
        Run leadsTo(int a, int s, int total, int... want) {
            for (int t = -1; t <= total; t++) {
                int at = t;
                leads(a, s, t, Arrays.stream(want).anyMatch(w -> w == at));
            }
            return this;
        }

        Run counts(int... want) {
            for (int what = 0; what < want.length; what++) {
                count(what, want[what]);
            }
            return this;
        }

        Run traceIs(int... want) {
            for (int k = 0; k < want.length; k++) {
                trace(k, want[k]);
            }
            return trace(-1, -1).trace(want.length, -1).trace(LEAST, -1).trace(MOST, -1);
        }

        Run failingAre(int... want) {
            for (int k = 0; k < want.length; k++) {
                failing(k, want[k]);
            }
            return failing(-1, -1).failing(want.length, -1).failing(LEAST, -1).failing(MOST, -1);
        }

        /** The draft, for which these states fail; it is empty before and after. */
        Run failFor(int[] q, int... want) {
            return draft(q).fails(want.length).failingAre(want).empty();
        }
    }

    private static int[] list(int... tokens) {
        return tokens;
    }

    private static int[] range(int from, int to) {
        int[] all = new int[to - from];
        for (int i = 0; i < all.length; i++) {
            all[i] = from + i;
        }
        return all;
    }

    /** An expression for a number, -20..20. */
    private static int[] number(int k) {
        List<Integer> tokens = new ArrayList<>();
        int rest = k;
        if (rest < 0) {
            tokens.add(21);
            tokens.add(0);
            rest = -rest;
        }
        while (rest > 4) {
            tokens.add(20);
            tokens.add(4);
            rest -= 4;
        }
        tokens.add(rest);
        return tokens.stream().mapToInt(t -> t).toArray();
    }

    // ---- Calls that must change nothing: two objects, one of which has the call, one not.

    /** Six states, three actions, all kinds of effects and fairness, INIT, HELD, a trace, failing ones. */
    private static Run sample() {
        Run r = new Run().sizes(3, 2, 1).begins(23, 20, 10, 11, 0).holds(24, 10, 2);
        r.guard(0, 25, 24, 10, 2, 23, 11, 0).becomes(0, 0, 20, 10, 1).fair(0, 2, true);
        r.guard(1, 1).becomes(1, 1, 21, 1, 11).fair(1, 1, true);
        r.guard(2, 23, 10, 2).effect(2, 0, true, true);
        r.draft(24, 10, 2).invariant(2).empty();
        return r.draft(0).fails(4).empty();
    }

    private static Run sampleWithDraft() {
        return sample().draft(24, 10);
    }

    private static Run sampleWithFullDraft() {
        return sample().draft(27, 27, 27, 27, 27, 27, 27, 27, 27, 24, 10, 1);
    }

    private static void askFails(FairChecker x, List<Integer> seen) {
        int[][] qs = {{23, 10, 1}, {23, 10, 2}, {11}, {0}};
        for (int[] q : qs) {
            for (int t : q) {
                x.token(t);
            }
            seen.add(x.fails());
            for (int k = 0; k < 6; k++) {
                seen.add(x.failing(k));
            }
            x.action(-1);
        }
    }

    /** Answers that tell all of a small object: what was found, the draft, and the specification. */
    private static List<Integer> look(FairChecker x) {
        List<Integer> seen = new ArrayList<>();
        for (int k = 0; k < 5; k++) {
            seen.add(x.trace(k));
            seen.add(x.failing(k));
        }
        seen.add(x.token(1));
        seen.add(x.invariant());
        seen.add(x.fails());
        for (int k = 0; k < 5; k++) {
            seen.add(x.trace(k));
            seen.add(x.failing(k));
        }
        x.action(-1);
        for (int what = 0; what < 6; what++) {
            seen.add(x.count(what));
        }
        for (int s = 0; s < 6; s++) {
            for (int what = 0; what < 3; what++) {
                seen.add(x.state(s, what));
            }
            for (int t = 0; t < 6; t++) {
                for (int a = 0; a < 4; a++) {
                    seen.add(x.leads(a, s, t) ? 1 : 0);
                }
            }
        }
        askFails(x, seen);
        x.hold();
        askFails(x, seen);
        // A variable of one value hides what becomes of it.
        x.variable(2, 2);
        seen.add(x.count(2));
        seen.add(x.count(5));
        x.variable(2, 1);
        x.drop(1);
        askFails(x, seen);
        return seen;
    }

    private static void unchanged(String what, Run with, Run without) {
        tell(look(with.x).equals(look(without.x)), what + " has changed something");
    }

    private static void changed(String what, Run with, Run without) {
        tell(!look(with.x).equals(look(without.x)), what + " was not seen: the test looks too little");
    }

    private static void noChange(String what, Consumer<Run> call) {
        Run with = sample();
        call.accept(with);
        unchanged(what, with, sample());
    }

    private static void noChangeOfDraft(String what, Consumer<Run> call) {
        Run with = sampleWithDraft();
        call.accept(with);
        unchanged(what, with, sampleWithDraft());
    }

    private static void change(String what, Consumer<Run> call) {
        Run with = sample();
        call.accept(with);
        changed(what, with, sample());
    }

    /** Tests that compare two objects are worth something only if they see what a call changes. */
    private static void theLookSeesChanges() {
        sentence = "The look at an object sees changes";
        for (int v = 0; v < 3; v++) {
            for (int n = 1; n <= 5; n++) {
                int at = v;
                int size = n;
                if (size != 3 - at) {
                    change("variable " + at + " " + size, r -> r.variable(at, size, true));
                }
            }
            for (int a = 0; a < 3; a++) {
                int at = v;
                int by = a;
                if (by != 2 || at != 0) {
                    change("effect any " + by + " " + at, r -> r.effect(by, at, true, true));
                }
            }
        }
        change("token", r -> r.token(0, 1));
        change("action 0", r -> r.guard(0, 1));
        change("action 3", r -> r.guard(3, 1));
        change("effect 0 stays", r -> r.effect(0, 0, false, true));
        change("effect 0", r -> r.becomes(0, 0, 0));
        change("effect 1 stays", r -> r.effect(1, 1, false, true));
        change("effect 2 stays", r -> r.effect(2, 0, false, true));
        change("effect 2", r -> r.becomes(2, 0, 1));
        change("fair 0 weak", r -> r.fair(0, 1, true));
        change("fair 0 none", r -> r.fair(0, 0, true));
        change("fair 1 none", r -> r.fair(1, 0, true));
        change("fair 2 weak", r -> r.fair(2, 1, true));
        change("drop 0", r -> r.drop(0, true));
        change("drop 1", r -> r.drop(1, true));
        change("drop 2", r -> r.drop(2, true));
        change("init none", r -> r.init(true));
        change("init", r -> r.begins(10));
        change("hold none", r -> r.hold(true));
        change("hold", r -> r.holds(11));
        change("invariant", r -> r.draft(0).invariant(0).empty());
        change("fails", r -> r.draft(1).fails(0).empty());
    }

    // ---- What it is, and Terms.

    private static void atMost512Calls() {
        quote("What it is", "An object is used for at most 512 calls after it has been made");
        Run r = new Run().sizes(2, 1, 1).guard(0, 1).becomes(0, 0, 21, 1, 10).draft(10);
        for (int i = r.calls; i < 509; i++) {
            r.count(i % 7, list(2, 2, 2, 0, 0, 2, -1)[i % 7]);
        }
        r.invariant(0).trace(0, 0).leads(0, 1, 0, true);
        tell(r.calls == 512, "the last call is number " + r.calls);
    }

    private static void variablesHaveValues() {
        quote("Terms", "VARIABLES 0..2 have values 0..n - 1, n being 1..5 (1 at first).");
        for (int v = 0; v < 3; v++) {
            Run r = new Run().count(0, 1);
            for (int n = 1; n <= 5; n++) {
                r.variable(v, n, true).count(0, n);
                for (int s = 0; s < n; s++) {
                    for (int u = 0; u < 3; u++) {
                        r.state(s, 3 + u, u == v ? s : 0);
                    }
                }
                r.state(n, 3 + v, -1).state(-1, 3 + v, -1);
            }
        }
    }

    private static void numbersOfStates() {
        quote("Terms", "A STATE is values of all of them, with the number v0 + n0 * (v1 + n1 * v2).");
        int[][] sizes = {{5, 5, 5}, {2, 3, 4}, {4, 3, 2}, {1, 5, 1}, {5, 1, 5}, {1, 1, 5}};
        for (int[] n : sizes) {
            Run r = new Run().sizes(n[0], n[1], n[2]);
            int last = n[0] * n[1] * n[2] - 1;
            r.count(0, last + 1).state(last + 1, 0, -1);
            for (int v = 0; v < 3; v++) {
                int first = v == 0 ? 1 : v == 1 ? n[0] : n[0] * n[1];
                r.state(0, 3 + v, 0).state(last, 3 + v, n[v] - 1);
                // The greatest value that this variable alone can have, and one state more.
                r.state(first * (n[v] - 1), 3 + v, n[v] - 1);
                r.state(first * n[v], 3 + v, first * n[v] <= last ? 0 : -1);
            }
        }
    }

    private static void twelveTokens() {
        quote("Terms", "EXPRESSIONS are prefix lists of at most 12 tokens");
        // v0 < 1, with NOT before it as often as there is room for.
        int[] odd = list(27, 27, 27, 27, 27, 27, 27, 27, 27, 24, 10, 1);
        Run r = new Run().sizes(3, 1, 1).guard(0, odd).becomes(0, 0, odd);
        r.state(0, 2, 0).state(1, 2, 1).state(2, 2, 1).leads(0, 2, 1, true).leads(0, 2, 2, false);
        r.begins(odd).count(1, 2).state(0, 0, -1);
        r.init(true).holds(odd).failFor(list(0), 1, 2).hold(true);
        r.draft(odd).invariant(0).fails(1).failing(0, 0).trace(0, 0).empty();
        for (int[] sum : new int[][] {{20, 20, 20, 20, 20, 4, 4, 4, 4, 4, 4}, {20, 4, 20, 4, 20, 4, 20, 4, 20, 4, 4}}) {
            new Run().sizes(5, 1, 1).guard(0, 23, 4, 4).becomes(0, 0, sum).leadsTo(0, 0, 5, 4);
        }
        new Run().sizes(5, 1, 1).guard(0, 1).becomes(0, 0, 28, 0, 1, 28, 0, 2, 28, 0, 3, 20, 1, 3).leadsTo(0, 0, 5, 4);
    }

    /** Full expressions everywhere, the later ones set first or last: none may run into another. */
    private static void twelveTokensSideBySide() {
        quote("Terms", "at most 12 tokens");
        int[] yes = list(20, 20, 0, 0, 27, 27, 27, 27, 27, 27, 27, 0);
        int[] grows = list(22, 1, 20, 27, 27, 27, 27, 27, 27, 27, 0, 10);
        for (int turn = 0; turn < 2; turn++) {
            Run r = new Run().sizes(2, 2, 2);
            for (int i = 0; i < 4; i++) {
                int a = turn == 0 ? i : 3 - i;
                r.guard(a, 1);
                for (int j = 0; j < 3; j++) {
                    int v = turn == 0 ? j : 2 - j;
                    grows[11] = 10 + v;
                    r.becomes(a, v, grows);
                }
            }
            r.holds(yes).begins(yes).count(1, 8);
            for (int a = 0; a < 4; a++) {
                r.leadsTo(a, 2, 8, 5).state(2, 2, 15);
            }
            r.failFor(list(0), range(0, 8)).holds(27, 27, 27, 27, 27, 27, 27, 27, 27, 27, 27, 1).count(1, 8);
            r.failFor(list(0)).begins(27, 27, 27, 27, 27, 27, 27, 27, 27, 27, 27, 0).failFor(list(0)).state(7, 2, 15);
        }
        // A guard that is full beside one that is short, from the last one to the first.
        Run r = new Run();
        for (int a = 3; a >= 0; a--) {
            r.guard(a, a % 2 == 0 ? yes : list(0)).state(0, 2, list(5, 4, 4, 0)[a]);
        }
        r.holds(yes).state(0, 2, 5).begins(27, 27, 27, 27, 27, 27, 27, 27, 27, 27, 27, 1).draft(0).fails(0);
    }

    private static void intsThatWrap() {
        quote("Terms", "worked out with the values of a state, in ints that wrap");
        // Twelve tokens come no farther than to 4^6 and -4^5: nothing is cut off on the way there.
        int[] most = list(22, 22, 22, 22, 22, 4, 4, 4, 4, 4, 4);
        int[] least = list(21, 0, 22, 22, 22, 22, 4, 4, 4, 4, 4);
        for (int n = 1; n <= 5; n++) {
            new Run().sizes(n, 1, 1).guard(0, most).becomes(0, 0, most).leadsTo(0, 0, n, 4096 % n);
            new Run().sizes(n, 1, 1).guard(0, least).becomes(0, 0, least).leadsTo(0, 0, n, Math.floorMod(-1024, n));
        }
        new Run().guard(0, 24, 22, 4, 22, 4, 22, 4, 22, 4, 4, 0).state(0, 2, 0);
        new Run().guard(0, 24, 21, 0, 22, 4, 22, 4, 22, 4, 4, 0).state(0, 2, 1);
    }

    private static void oneOrZero() {
        quote("Terms", "27 NOT A (these five 1 or 0; anything but 0 is TRUE)");
        int[] values = {-2, -1, 0, 1, 2, 3, 4};
        for (int a : values) {
            dueValue(join(list(27), number(a)), a == 0 ? 1 : 0);
            for (int b : values) {
                dueValue(join(list(23), number(a), number(b)), a == b ? 1 : 0);
                dueValue(join(list(24), number(a), number(b)), a < b ? 1 : 0);
                dueValue(join(list(25), number(a), number(b)), a != 0 && b != 0 ? 1 : 0);
                dueValue(join(list(26), number(a), number(b)), a != 0 || b != 0 ? 1 : 0);
            }
            // Where a predicate is asked for.
            boolean yes = a != 0;
            Run r = new Run().guard(0, number(a)).state(0, 2, yes ? 1 : 0).leads(0, 0, 0, yes);
            r.draft(number(a)).invariant(yes ? -1 : 0).fails(yes ? 0 : 1).empty();
            r.holds(number(a)).draft(0).fails(yes ? 1 : 0).empty();
            r.begins(number(a)).count(1, yes ? 1 : 0);
        }
    }

    private static int[] join(int[]... parts) {
        return Arrays.stream(parts).flatMapToInt(Arrays::stream).toArray();
    }

    private static void dueValue(int[] tokens, int want) {
        new Run().sizes(5, 1, 1).guard(0, 1).becomes(0, 0, tokens).leadsTo(0, 0, 5, want);
    }

    private static void numbersAndNames() {
        quote("Terms", "0..4 the number   10..12 variable 0..2   20 + A B   21 - A B   22 * A B   23 = A B   24 < A B   25 AND A B   26 OR A B");
        for (int n = 0; n <= 4; n++) {
            dueValue(list(n), n);
            for (int v = 0; v < 3; v++) {
                // Only variable v has five values, so that its value is the number of the state.
                Run r = new Run().variable(v, 5, true).guard(0, 1).becomes(0, v, 10 + v).leadsTo(0, n, 5, n);
                r.becomes(0, v, 20, 10 + v, 4).leadsTo(0, n, 5, (n + 4) % 5).becomes(0, v, 21, 10 + v, 4).leadsTo(0, n, 5, (n + 1) % 5);
                r.becomes(0, v, 21, 4, 10 + v).leadsTo(0, n, 5, 4 - n).becomes(0, v, 22, 10 + v, 10 + v).leadsTo(0, n, 5, n * n % 5);
                r.becomes(0, v, 10 + (v + 1) % 3).leadsTo(0, n, 5, 0).becomes(0, v, 10 + (v + 2) % 3).leadsTo(0, n, 5, 0);
                r.becomes(0, v, 23, 10 + v, 4).leadsTo(0, n, 5, n == 4 ? 1 : 0).becomes(0, v, 24, 10 + v, 4).leadsTo(0, n, 5, n < 4 ? 1 : 0);
                r.becomes(0, v, 24, 4, 10 + v).leadsTo(0, n, 5, 0).becomes(0, v, 24, 0, 10 + v).leadsTo(0, n, 5, n > 0 ? 1 : 0);
                r.becomes(0, v, 25, 10 + v, 1).leadsTo(0, n, 5, n > 0 ? 1 : 0).becomes(0, v, 26, 0, 10 + v).leadsTo(0, n, 5, n > 0 ? 1 : 0);
            }
        }
    }

    private static void ifElse() {
        quote("Terms", "28 IF A B C: B if A is TRUE, else C");
        for (int a = -3; a <= 4; a++) {
            dueValue(join(list(28), number(a), list(2, 3)), a == 0 ? 3 : 2);
            dueValue(join(list(28), number(a), list(3, 2)), a == 0 ? 2 : 3);
        }
        dueValue(list(28, 28, 0, 1, 0, 2, 28, 1, 4, 3), 4);
        dueValue(list(28, 28, 1, 1, 0, 28, 0, 2, 3, 4), 3);
    }

    private static void fourActions() {
        quote("Terms", "ACTIONS 0..3 are there or not.");
        Run r = new Run().sizes(5, 1, 1).begins(23, 10, 0).state(0, 2, 0);
        for (int a = 0; a < 4; a++) {
            r.drop(a, false).guard(a, 1).becomes(a, 0, a + 1).state(0, 2, (2 << a) - 1).state(0, 1, (2 << a) - 1);
        }
        r.draft(1).action(4, false).draft(1).action(-1, false).state(0, 2, 15);
        for (int a = 0; a < 4; a++) {
            r.leadsTo(a, 0, 5, a + 1);
        }
        for (int a = 3; a >= 0; a--) {
            r.drop(a, true).state(0, 2, (1 << a) - 1);
        }
    }

    private static void remainderAsOnTheClock() {
        quote("Terms", "becomes an expression (its remainder, 0..n - 1, as on the clock: -1 is n - 1)");
        for (int n = 1; n <= 5; n++) {
            for (int k = -20; k <= 20; k++) {
                int want = k;
                while (want < 0) {
                    want += n;
                }
                while (want >= n) {
                    want -= n;
                }
                new Run().sizes(n, 1, 1).guard(0, 1).becomes(0, 0, number(k)).leadsTo(0, 0, n, want);
                new Run().sizes(1, n, 1).guard(3, 1).becomes(3, 1, number(k)).leadsTo(3, 0, n, want);
                new Run().sizes(1, 1, n).guard(2, 1).becomes(2, 2, number(k)).leadsTo(2, 0, n, want);
            }
        }
    }

    private static void anyValue() {
        quote("Terms", "or ANY value");
        for (int n = 1; n <= 5; n++) {
            for (int v = 0; v < 3; v++) {
                Run r = new Run().variable(v, n, true).guard(0, 1).effect(0, v, true, true);
                r.leadsTo(0, 0, n, range(0, n)).leadsTo(0, n - 1, n, range(0, n));
            }
        }
        Run r = new Run().sizes(5, 5, 5).guard(0, 1).begins(23, 20, 10, 20, 11, 12, 0);
        r.effect(0, 0, true, true).count(2, 5).effect(0, 1, true, true).count(2, 25);
        r.effect(0, 2, true, true).counts(125, 1, 125, 1, 0, 125 * 124).leadsTo(0, 77, 125, range(0, 125));
    }

    private static void guardThatIsNotTrue() {
        quote("Terms", "It LEADS from a state for which its guard is TRUE to each state in which the variables have what their effects say");
        Run r = new Run().sizes(2, 1, 1).guard(0, 10);
        r.leadsTo(0, 0, 2).leadsTo(0, 1, 2, 1).effect(0, 0, true, true);
        r.leadsTo(0, 0, 2).leadsTo(0, 1, 2, 0, 1).state(0, 1, 0).state(1, 1, 1);
    }

    private static void oldValues() {
        quote("Terms", "worked out with the old values");
        Run r = new Run().sizes(3, 3, 3).guard(0, 1).becomes(0, 0, 12).becomes(0, 1, 10).becomes(0, 2, 11);
        for (int s = 0; s < 27; s += 2) {
            r.leadsTo(0, s, 27, s / 9 + 3 * (s % 3 + 3 * (s / 3 % 3)));
        }
    }

    private static void initOrNone() {
        quote("Terms", "INIT is an expression or none (all states)");
        Run r = new Run().sizes(5, 5, 5).counts(125, 125, 125, 0, 125, 0);
        r.begins(0).counts(125, 0, 0, -1, 0, 0).begins(4).count(1, 125);
        r.begins(22, 10, 22, 11, 12).count(1, 64).init(true).count(1, 125);
    }

    private static void stuttering() {
        quote("Terms", "A STEP leads from a state to itself (STUTTERING), or to where an action leads.");
        // It is no pair of different states, lets no state be deeper, and a behaviour may end with it.
        Run r = new Run().sizes(2, 1, 1).begins(23, 10, 0).counts(2, 1, 1, 0, 1, 0).failFor(list(0), 0);
        r.guard(0, 1).counts(2, 1, 1, 0, 1, 0).failFor(list(0), 0);
        r.guard(0, 23, 10, 0).becomes(0, 0, 1).counts(2, 1, 2, 1, 1, 1).failFor(list(10), 0).failFor(list(0), 0, 1);
    }

    private static void reachedAndDepth() {
        quote("Terms", "REACHED are the states to which steps lead from initial ones, these too; a state's DEPTH is the least number of steps.");
        // 0 -> 1 -> 2 -> 3 -> 0, and 0 -> 3: initial ones keep depth 0, the shorter way counts.
        Run r = new Run().sizes(5, 1, 1).begins(23, 10, 0).guard(0, 24, 10, 4);
        r.becomes(0, 0, 28, 23, 10, 3, 0, 20, 10, 1);
        r.state(0, 0, 0).state(1, 0, 1).state(2, 0, 2).state(3, 0, 3).state(4, 0, -1).count(3, 3);
        r.guard(1, 23, 10, 0).becomes(1, 0, 3).state(3, 0, 1).state(2, 0, 2).count(3, 2).count(2, 4);
        r.begins(26, 23, 10, 0, 23, 10, 2).state(2, 0, 0).state(3, 0, 1).state(1, 0, 1).count(3, 1);
        r.begins(23, 10, 4).state(4, 0, 0).state(0, 0, -1).counts(5, 1, 1, 0, 1, 0);
        // From the last state back to the first, which is the deepest.
        r = new Run().sizes(5, 1, 1).begins(23, 10, 4).guard(0, 10).becomes(0, 0, 21, 10, 1);
        r.counts(5, 1, 5, 4, 1, 4).state(0, 0, 4).state(4, 0, 0);
    }

    private static void enabledIfToAnother() {
        quote("Terms", "An action is ENABLED in a state if it leads to another one");
        Run r = new Run().guard(0, 1).effect(0, 0, true, true).state(0, 1, 0).state(0, 2, 1).count(4, 1);
        r.variable(0, 2, true).state(0, 1, 1).state(1, 1, 1).count(4, 0);
        r.becomes(0, 0, 0).state(0, 1, 0).state(1, 1, 1).count(4, 1);
        r.becomes(0, 0, 10).state(0, 1, 0).state(1, 1, 0).state(1, 2, 1).count(4, 2);
        // Not enabled where it leads to no other state, fairness asks nothing of it.
        r.fair(0, 2, true).failFor(list(0), 0, 1).fair(0, 1, true).failFor(list(0), 0, 1);
    }

    private static void taken() {
        quote("Terms", "it is TAKEN by a step from s to t if t is not s and it leads from s to t");
        for (int how = 1; how <= 2; how++) {
            // Staying is not taking it, though it leads from 0 to 0 too.
            Run r = new Run().sizes(2, 1, 1).guard(0, 1).effect(0, 0, true, true).fair(0, how, true);
            r.failFor(list(10)).failFor(list(27, 10)).failFor(list(0), 0, 1);
            // A step that another action makes takes it, if it leads the same way.
            r = new Run().sizes(3, 1, 1).begins(24, 10, 2);
            r.guard(0, 24, 10, 2).becomes(0, 0, 21, 1, 10).guard(1, 24, 10, 2).effect(1, 0, true, true);
            r.fair(1, how, true).failFor(list(23, 10, 2), 0, 1).drop(0, true).failFor(list(23, 10, 2), 0, 1);
            r.becomes(1, 0, 2).failFor(list(23, 10, 2));
            // Round 0, 1, 2: taken by the step out of the first state alone, or into it.
            r = new Run().sizes(3, 1, 1).guard(0, 1).becomes(0, 0, 20, 10, 1).fair(0, how, true);
            r.guard(1, 27, 10).becomes(1, 0, 1).fair(1, how, true).failFor(list(0), 0, 1, 2);
            r.guard(1, 23, 10, 2).becomes(1, 0, 0).fair(1, how, true).failFor(list(0), 0, 1, 2);
        }
    }

    private static void threeKindsOfFairness() {
        quote("Terms", "FAIRNESS of an action that is there: none (0), WEAK (1) or STRONG (2).");
        // 0 and 1 back and forth, and out to 2 from 0 alone.
        Run r = new Run().sizes(3, 1, 1).begins(24, 10, 2);
        r.guard(0, 24, 10, 2).becomes(0, 0, 21, 1, 10).fair(0, 1, true).guard(1, 23, 10, 0).becomes(1, 0, 2);
        int[] out = list(23, 10, 2);
        r.failFor(out, 0, 1).fair(1, 1, true).failFor(out, 0, 1).fair(1, 2, true).failFor(out);
        r.fair(1, 3, false).failFor(out).fair(1, 0, true).failFor(out, 0, 1);
        // One that is there no more is not asked for.
        r.fair(1, 2, true).drop(1, true).failFor(out, 0, 1);
    }

    private static void endlessRows() {
        quote("Terms", "A BEHAVIOUR is an endless row of states, from an initial one on, with a step from each to the next.");
        // No way on from 2, so it stays there; no behaviour comes to 3 and 4.
        Run r = new Run().sizes(5, 1, 1).begins(23, 10, 0).guard(0, 27, 23, 10, 2).becomes(0, 0, 20, 10, 1).fair(0, 2, true);
        r.failFor(list(0), 0, 1, 2).failFor(list(23, 10, 1), 2).failFor(list(23, 10, 2));
        r.failFor(list(24, 2, 10), 0, 1, 2).begins(0).failFor(list(0));
        // From the last state over the first one, where it can't stay.
        r = new Run().sizes(3, 1, 1).begins(23, 10, 2).guard(0, 27, 23, 10, 1).becomes(0, 0, 28, 10, 0, 1).fair(0, 1, true);
        r.failFor(list(0), 0, 1, 2).failFor(list(27, 10), 1).failFor(list(23, 10, 1));
    }

    private static void alwaysEnabledAndNeverTaken() {
        quote("Terms", "It is FAIR if no weak action is, from some state on, always enabled and never taken");
        int[] out = list(23, 10, 4);
        // Round 0, 1, 2; the weak action leads out to 4 from the states below a bound.
        for (int bound = 0; bound <= 3; bound++) {
            Run r = new Run().sizes(5, 1, 1).begins(24, 10, 3).guard(0, 24, 10, 3);
            r.becomes(0, 0, 28, 23, 10, 2, 0, 20, 10, 1).fair(0, 1, true);
            r.guard(1, 24, 10, bound).becomes(1, 0, 4).fair(1, 1, true);
            r.failFor(out, bound == 3 ? list() : list(0, 1, 2));
            // Without the way round they may stay where it is not enabled, and only there.
            r.drop(0, true).failFor(out, range(bound, 3));
        }
        // From some state on: enabled always at first, no more later.
        Run r = new Run().sizes(5, 1, 1).begins(23, 10, 0).guard(0, 24, 10, 2).becomes(0, 0, 20, 10, 1);
        r.guard(1, 24, 10, 2).becomes(1, 0, 4).fair(1, 1, true).failFor(out, 0, 1, 2);
        // Taken endlessly often within, it need not go out.
        r = new Run().sizes(5, 1, 1).begins(24, 10, 2).guard(1, 24, 10, 2).becomes(1, 0, 21, 1, 10).fair(1, 1, true);
        r.failFor(out, 0, 1).failFor(list(10)).failFor(list(27, 10));
    }

    private static void endlesslyOftenEnabled() {
        quote("Terms", "and no strong one endlessly often enabled and from some state on never taken");
        int[] out = list(23, 10, 4);
        for (int bound = 0; bound <= 3; bound++) {
            Run r = new Run().sizes(5, 1, 1).begins(24, 10, 3).guard(0, 24, 10, 3);
            r.becomes(0, 0, 28, 23, 10, 2, 0, 20, 10, 1).fair(0, 1, true);
            r.guard(1, 24, 10, bound).becomes(1, 0, 4).fair(1, 2, true);
            r.failFor(out, bound == 0 ? list(0, 1, 2) : list());
            r.fair(0, 0, true).failFor(out, bound == 3 ? list() : list(0, 1, 2));
        }
        // Enabled often, but not endlessly: from 2 no way leads back.
        Run r = new Run().sizes(5, 1, 1).begins(23, 10, 0).guard(0, 24, 10, 2).effect(0, 0, true, true);
        r.guard(1, 24, 10, 2).becomes(1, 0, 4).fair(1, 2, true).failFor(out, 0, 1, 2, 3);
        r.failFor(list(24, 1, 10));
        // Taken endlessly often within, it need not go out.
        r = new Run().sizes(5, 1, 1).begins(24, 10, 2).guard(1, 24, 10, 2).becomes(1, 0, 21, 1, 10).fair(1, 2, true);
        r.failFor(out, 0, 1).failFor(list(10)).failFor(list(27, 10));
    }

    // ---- Promise 1 to 9: what changes the specification.

    private static void newObject() {
        quote("Promise 1", "All variables have one value, no actions, no INIT, an empty draft, nothing held.");
        tell(FairChecker.NONE == -1, "NONE");
        new Run().counts(1, 1, 1, 0, 1, 0, -1);
        for (int what = 0; what < 6; what++) {
            new Run().state(0, what, 0).state(1, what, -1);
        }
        for (int a = -1; a < 5; a++) {
            new Run().drop(a, false).fair(a, 0, false).effect(a, 0, true, false).leads(a, 0, 0, false);
        }
        new Run().variable(0, 5, true).count(1, 5);
        new Run().invariant(-2).fails(-2).action(0, false).token(0, 1);
        new Run().init(true).hold(true).draft(0).fails(1).failing(0, 0);
        new Run().traceIs().failingAre();
    }

    private static void variableOutOfRange() {
        quote("Promise 2", "Variable v has n values from now on: true; false, and nothing changes, if one is out of range.");
        int[][] refused = {{-1, 2}, {3, 2}, {LEAST, 2}, {MOST, 2}, {0, 0}, {0, 6}, {1, 0}, {1, 6}, {2, 0}, {2, 6},
            {0, -1}, {1, LEAST}, {2, MOST}, {-1, 0}, {3, 6}, {0, 260}, {256, 2}};
        for (int[] c : refused) {
            noChangeOfDraft("variable " + c[0] + " " + c[1], r -> r.variable(c[0], c[1], false));
        }
        for (int v = 0; v < 3; v++) {
            new Run().variable(v, 1, true).variable(v, 5, true).variable(v, 6, false).count(0, 5)
                .variable(v, 0, false).count(0, 5).variable(v, 1, true).count(0, 1);
        }
    }

    private static void variableFromNowOn() {
        quote("Promise 2", "Variable v has n values from now on");
        // What was set keeps its words: 3 is 1 of two, 3 of four and 0 of three values.
        Run r = new Run().variable(0, 2, true).guard(0, 1).becomes(0, 0, 3).guard(1, 1).effect(1, 0, true, true);
        r.leadsTo(0, 0, 2, 1).leadsTo(1, 0, 2, 0, 1).variable(0, 4, true).leadsTo(0, 0, 4, 3);
        r.leadsTo(1, 0, 4, 0, 1, 2, 3).begins(23, 10, 3).count(1, 1).variable(0, 3, true).count(1, 0);
        r.leadsTo(0, 2, 3, 0).variable(0, 5, true).count(1, 1).state(3, 0, 0);
        // States that are no more are on no way: from 0 to 4 with five values, with four from 1 to 2.
        r = new Run().variable(0, 5, true).begins(24, 10, 2).guard(0, 27, 10).becomes(0, 0, 4).guard(1, 23, 10, 1);
        r.becomes(1, 0, 2).draft(24, 10, 4).invariant(1).traceIs(0, 4).fails(1).failingAre(4).empty();
        r.variable(0, 4, true).counts(4, 2, 3, 1, 2, 1).draft(24, 10, 2).invariant(1).traceIs(1, 2).fails(1).failingAre(2);
    }

    private static void tokenRefused() {
        quote("Promise 3", "-1, and nothing changes, if it is none of these, or there are 12.");
        for (int t = -3; t < 60; t++) {
            boolean known = t >= 0 && t <= 4 || t >= 10 && t <= 12 || t >= 20 && t <= 28;
            int at = t;
            new Run().token(t, known ? 1 : -1);
            if (!known) {
                noChangeOfDraft("token " + t, r -> r.token(at, -1));
            }
            Run full = sampleWithFullDraft().token(t, -1).token(LEAST, -1);
            unchanged("token " + t + " into a full draft", full, sampleWithFullDraft());
        }
        for (int t : list(LEAST, MOST, LEAST + 20, 256, 266, 276, -20, 1 << 16)) {
            noChangeOfDraft("token " + t, r -> r.token(t, -1));
        }
    }

    private static void tokenCounts() {
        quote("Promise 3", "Appends a token to the draft: how many it has");
        Run r = new Run().draft(20, 21, 22, 23, 24, 25, 0, 1, 2, 10, 11, 12).token(0, -1).token(0, -1).empty();
        r.token(26, 1).token(5, -1).token(27, 2).token(-1, -1).token(28, 3).empty().token(3, 1);
    }

    private static void actionTakesTheDraft() {
        quote("Promise 4", "The draft, which is empty then, becomes the guard of action a");
        Run r = new Run().sizes(2, 1, 1).draft(10).action(0, true).token(1, 1).empty();
        r.state(0, 2, 0).state(1, 2, 1).draft(27, 10).action(0, true).state(0, 2, 1).state(1, 2, 0).action(0, false);
    }

    private static void actionBeginsAnew() {
        quote("Promise 4", "which is there from now on: all its variables stay, its fairness is 0.");
        for (int a = 0; a < 4; a++) {
            for (int how = 1; how <= 2; how++) {
                Run r = new Run().sizes(2, 2, 2).begins(23, 20, 10, 20, 11, 12, 0).guard(a, 1);
                r.becomes(a, 0, 1).effect(a, 1, true, true).becomes(a, 2, 1).fair(a, how, true);
                r.leadsTo(a, 0, 8, 5, 7).failFor(list(10)).guard(a, 1).leadsTo(a, 0, 8, 0);
                r.becomes(a, 0, 1).leadsTo(a, 0, 8, 1).failFor(list(10), 0);
                // Dropped in between it is no other.
                r.effect(a, 1, true, true).fair(a, how, true).drop(a, true).guard(a, 1).leadsTo(a, 0, 8, 0);
                r.becomes(a, 0, 1).failFor(list(10), 0);
            }
        }
    }

    private static void actionRefused() {
        quote("Promise 4", "false if a is out of range, or the draft is no expression (it is empty then, and nothing else changes).");
        for (int a : list(-1, 4, LEAST, MOST, 256, -4)) {
            noChange("action " + a, r -> r.draft(1).action(a, false));
            noChange("action " + a + " with nothing", r -> r.action(a, false));
            noChange("action " + a + " with no expression", r -> r.draft(20).action(a, false));
        }
        for (int a = 0; a < 4; a++) {
            int at = a;
            noChange("action " + a + " with nothing", r -> r.action(at, false));
            for (int[] bad : NO_EXPRESSIONS) {
                noChange("action " + a + " with " + Arrays.toString(bad), r -> r.draft(bad).action(at, false));
            }
        }
    }

    private static void effectOfAnEmptyDraft() {
        quote("Promise 5", "The draft (empty then) is what variable v becomes by action a; with an empty draft it stays, or becomes any value (any).");
        for (int a = 0; a < 4; a++) {
            for (int v = 0; v < 3; v++) {
                Run r = new Run().variable(v, 3, true).guard(a, 1);
                r.leadsTo(a, 1, 3, 1).draft(2).effect(a, v, false, true).leadsTo(a, 1, 3, 2);
                r.effect(a, v, true, true).leadsTo(a, 1, 3, 0, 1, 2).effect(a, v, false, true).leadsTo(a, 1, 3, 1);
                r.effect(a, v, true, true).draft(0).effect(a, v, false, true).leadsTo(a, 1, 3, 0);
                r.effect(a, v, false, true).leadsTo(a, 1, 3, 1).effect(a, v, true, true).leadsTo(a, 1, 3, 0, 1, 2);
                // With a draft it is the draft that counts.
                r.draft(20, 10 + v, 1).effect(a, v, true, true).leadsTo(a, 1, 3, 2).leadsTo(a, 2, 3, 0).token(1, 1);
            }
        }
    }

    private static void effectRefused() {
        quote("Promise 5", "True; false if one is out of range, the action is not there, or the draft is neither empty nor an expression.");
        int[][] refused = {{-1, 0}, {4, 0}, {LEAST, 0}, {MOST, 0}, {0, -1}, {0, 3}, {1, LEAST}, {2, MOST}, {0, 256},
            {-1, 3}, {4, -1}, {3, 0}, {3, 2}, {1, -3}, {-1, 4}};
        for (boolean any : new boolean[] {false, true}) {
            for (int[] c : refused) {
                String name = "effect " + c[0] + " " + c[1] + " " + any;
                noChange(name, r -> r.draft(1).effect(c[0], c[1], any, false));
                noChange(name + " with nothing", r -> r.effect(c[0], c[1], any, false));
                noChange(name + " with no expression", r -> r.draft(1, 1).effect(c[0], c[1], any, false));
            }
            for (int a = 0; a < 4; a++) {
                int at = a;
                for (int[] bad : NO_EXPRESSIONS) {
                    for (int v = 0; v < 3; v++) {
                        int of = v;
                        noChange("effect with " + Arrays.toString(bad), r -> r.draft(bad).effect(at, of, any, false));
                    }
                }
            }
        }
        new Run().guard(0, 1).drop(0, true).effect(0, 0, true, false).draft(1).effect(0, 0, false, false).token(1, 1);
    }

    private static void fairRefused() {
        quote("Promise 6", "Sets the fairness of an action: true; false, and nothing changes, if it is not there or how not 0..2.");
        int[][] refused = {{0, -1}, {0, 3}, {1, -1}, {1, 3}, {2, -1}, {2, 3}, {0, LEAST}, {1, MOST}, {2, 256},
            {3, 0}, {3, 1}, {3, 2}, {-1, 1}, {4, 1}, {LEAST, 2}, {MOST, 0}, {-1, 3}, {4, -1}, {3, 3}};
        for (int[] c : refused) {
            noChangeOfDraft("fair " + c[0] + " " + c[1], r -> r.fair(c[0], c[1], false));
        }
        for (int a = 0; a < 4; a++) {
            Run r = new Run().fair(a, 0, false).guard(a, 1).draft(1);
            r.fair(a, 0, true).fair(a, 1, true).fair(a, 2, true).fair(a, 3, false).fair(a, -1, false);
            r.drop(a, true).fair(a, 0, false).fair(a, 1, false).token(1, 2);
        }
    }

    private static void dropRefused() {
        quote("Promise 7", "The action is there no more: true; false if it was not.");
        for (int a : list(3, -1, 4, LEAST, MOST, 256)) {
            noChangeOfDraft("drop " + a, r -> r.drop(a, false));
        }
        for (int a = 0; a < 4; a++) {
            Run r = new Run().sizes(2, 1, 1).guard(0, 1).guard(1, 1).guard(2, 1).guard(3, 1).becomes(a, 0, 1).draft(1);
            r.state(0, 2, 15).state(0, 1, 1 << a).drop(a, true).drop(a, false).state(0, 2, 15 - (1 << a)).state(0, 1, 0);
            r.leadsTo(a, 0, 2).fair(a, 1, false).count(4, 2).token(1, 2).empty().effect(a, 0, true, false);
            r.guard(a, 1).state(0, 2, 15).state(0, 1, 0).drop(a, true);
        }
    }

    private static void initOfAnEmptyDraft() {
        quote("Promise 8", "The draft (empty then) becomes INIT, or with an empty draft none: true");
        Run r = new Run().sizes(3, 1, 1).init(true).count(1, 3).draft(10).init(true).count(1, 2).token(1, 1).empty();
        r.init(true).count(1, 3).init(true).count(1, 3).draft(0).init(true).count(1, 0);
        r.draft(27, 10).init(true).count(1, 1).state(0, 0, 0).state(1, 0, -1).init(true).count(1, 3);
    }

    private static void initRefused() {
        quote("Promise 8", "false if it is neither empty nor an expression.");
        for (int[] bad : NO_EXPRESSIONS) {
            noChange("init with " + Arrays.toString(bad), r -> r.draft(bad).init(false));
            new Run().sizes(2, 1, 1).draft(bad).init(false).count(1, 2).token(1, 1);
        }
    }

    private static void holdTakesTheDraft() {
        quote("Promise 9", "The draft (empty then) becomes the expression that is HELD");
        Run r = new Run().sizes(5, 1, 1);
        for (int n = 0; n <= 4; n++) {
            r.draft(24, 10, n).hold(true).failFor(list(0), range(0, n));
        }
        r.holds(10).failFor(list(0), 1, 2, 3, 4).holds(21, 10, 4).failFor(list(0), 0, 1, 2, 3);
    }

    private static void holdRefused() {
        quote("Promise 9", "true; false if it is no expression (what was held stays).");
        for (int[] bad : NO_EXPRESSIONS) {
            noChange("hold with " + Arrays.toString(bad), r -> r.draft(bad).hold(false));
            new Run().sizes(2, 1, 1).draft(bad).hold(false).draft(0).fails(2).token(1, 2);
        }
    }

    private static void holdOfAnEmptyDraft() {
        quote("Promise 9", "With an empty draft nothing is held.");
        Run r = new Run().sizes(3, 1, 1).hold(true).failFor(list(0), 0, 1, 2).holds(10).failFor(list(0), 1, 2);
        r.hold(true).failFor(list(0), 0, 1, 2).hold(true).holds(0).failFor(list(0)).hold(true).failFor(list(0), 0, 1, 2);
        r.draft(1).hold(true).token(1, 1);
    }

    // ---- Promise 10 to 12: questions about the specification.

    private static void countOfNone() {
        quote("Promise 10", "3: the greatest depth of them, -1 if there are none");
        Run r = new Run().sizes(3, 1, 1).guard(0, 24, 10, 2).becomes(0, 0, 20, 10, 1);
        r.count(3, 0).begins(27, 10).count(3, 2).begins(0).counts(3, 0, 0, -1, 0, 0, -1);
        r.begins(23, 10, 2).counts(3, 1, 1, 0, 1, 0, -1).init(true).drop(0, true).count(3, 0);
    }

    private static void countOfTheMost() {
        quote("Promise 10", "What 0: how many states there are; 1: initial ones; 2: reached ones");
        Run r = new Run().sizes(5, 5, 5).guard(0, 1).becomes(0, 0, 20, 10, 1).becomes(0, 1, 20, 11, 23, 10, 4);
        r.becomes(0, 2, 20, 12, 25, 23, 10, 4, 23, 11, 4).counts(125, 125, 125, 0, 0, 125, -1);
        // One row through all states has the greatest depth of all.
        r.begins(23, 20, 10, 20, 11, 12, 0).counts(125, 1, 125, 124, 0, 125, -1).state(124, 0, 124).state(0, 0, 0);
        new Run().counts(1, 1, 1, 0, 1, 0, -1);
    }

    private static void countOfDeadEnds() {
        quote("Promise 10", "4: how many reached ones from which no action leads to another one");
        // 0 -> 1 and no further; 1 leads to itself; 2 and 3 are not reached.
        Run r = new Run().sizes(4, 1, 1).begins(27, 10).guard(0, 24, 10, 2).becomes(0, 0, 1).count(4, 1);
        r.becomes(0, 0, 10).count(4, 1).count(2, 1).init(true).count(4, 4).becomes(0, 0, 21, 1, 10).count(4, 2);
        r.guard(1, 1).becomes(1, 0, 20, 10, 1).count(4, 0);
    }

    private static void countOfPairs() {
        quote("Promise 10", "5: how many pairs of different states, the first one reached, there are with a step from the first to the second");
        // The same pair by two actions is one pair; there and back are two.
        Run r = new Run().sizes(2, 1, 1).guard(0, 1).effect(0, 0, true, true).guard(1, 1).becomes(1, 0, 21, 1, 10);
        r.count(5, 2).drop(0, true).count(5, 2).becomes(1, 0, 1).count(5, 1).begins(10).count(5, 0);
        r.init(true).effect(1, 0, false, true).count(5, 0);
        new Run().sizes(5, 5, 5).guard(3, 1).effect(3, 0, true, true).effect(3, 1, true, true).effect(3, 2, true, true)
            .count(5, 125 * 124).begins(10).count(5, 125 * 124).guard(3, 0).count(5, 0);
    }

    private static void countOfOthers() {
        quote("Promise 10", "else -1.");
        for (int what : list(-1, 6, 7, LEAST, MOST, 256, -6)) {
            noChangeOfDraft("count " + what, r -> r.count(what, -1));
        }
    }

    private static void stateNotReached() {
        quote("Promise 11", "Of a state what 0: its depth, -1 if it is not reached");
        Run r = new Run().sizes(3, 1, 1).begins(23, 10, 1).guard(0, 24, 10, 2).becomes(0, 0, 20, 10, 1);
        r.state(0, 0, -1).state(1, 0, 0).state(2, 0, 1).drop(0, true).state(2, 0, -1).begins(0).state(1, 0, -1);
    }

    private static void stateEnabled() {
        quote("Promise 11", "1: the sum of 2^a for the actions enabled in it; 2: of those whose guard is TRUE");
        for (int set = 0; set < 16; set++) {
            Run r = new Run().sizes(3, 1, 1).begins(0);
            for (int a = 0; a < 4; a++) {
                r.guard(a, 24, 10, 2).becomes(a, 0, (set >> a & 1) == 1 ? 2 : 0);
            }
            // All lead away from 1; from 0 only those to 2; from 2 none, and it need not be reached.
            r.state(0, 1, set).state(1, 1, 15).state(2, 1, 0).state(0, 2, 15).state(1, 2, 15).state(2, 2, 0);
            for (int a = 0; a < 4; a++) {
                r.drop(a, true);
                r.state(0, 1, set >> a + 1 << a + 1).state(0, 2, 15 >> a + 1 << a + 1);
            }
        }
    }

    private static void stateValues() {
        quote("Promise 11", "3, 4, 5: the values of the variables");
        Run r = new Run().sizes(2, 3, 5).begins(0);
        for (int s = 0; s < 30; s++) {
            r.state(s, 3, s % 2).state(s, 4, s / 2 % 3).state(s, 5, s / 6);
        }
        r.state(29, 2, 0).state(29, 6, -1).sizes(5, 5, 5).state(124, 3, 4).state(124, 4, 4).state(124, 5, 4);
        r.sizes(1, 1, 1).state(0, 3, 0).state(0, 4, 0).state(0, 5, 0).state(1, 3, -1);
    }

    private static void stateOfOthers() {
        quote("Promise 11", "-1 for others.");
        for (int what = -1; what < 7; what++) {
            for (int s : list(-1, 6, 7, LEAST, MOST, 256)) {
                int at = what;
                noChangeOfDraft("state " + s + " " + what, r -> r.state(s, at, -1));
            }
        }
        for (int what : list(-1, 6, 7, LEAST, MOST, 256)) {
            noChangeOfDraft("state 0 " + what, r -> r.state(0, what, -1).state(5, what, -1));
        }
        // The last state moves with the number of values.
        Run r = new Run().state(0, 3, 0).state(1, 3, -1).variable(2, 5, true).state(4, 5, 4).state(5, 5, -1);
        r.variable(2, 2, true).state(1, 5, 1).state(2, 5, -1);
    }

    private static void leadsNotThere() {
        quote("Promise 12", "Whether action a leads from state s to state t; false if one is not there.");
        int[][] refused = {{3, 0, 0}, {-1, 0, 0}, {4, 0, 0}, {LEAST, 0, 0}, {MOST, 0, 0}, {32, 0, 0}, {33, 0, 3},
            {1, -1, 0}, {1, 6, 0}, {1, LEAST, 0}, {1, MOST, 0}, {1, 0, -1}, {1, 0, 6}, {1, 0, LEAST}, {1, 0, MOST},
            {1, -1, -1}, {1, 6, 6}, {-1, -1, -1}, {4, 6, 6}, {1, 1, -125}, {1, -1, 125}, {1, 0, 125 + 3}};
        for (int[] c : refused) {
            noChangeOfDraft("leads " + Arrays.toString(c), r -> r.leads(c[0], c[1], c[2], false));
        }
        for (int a = 0; a < 4; a++) {
            Run r = new Run().leads(a, 0, 0, false).guard(a, 1).leads(a, 0, 0, true).begins(0).leads(a, 0, 0, true);
            r.drop(a, true).leads(a, 0, 0, false);
        }
        // A state that was there, and is no more with fewer values.
        Run r = new Run().sizes(5, 5, 5).guard(0, 1).effect(0, 0, true, true).leads(0, 124, 120, true).leads(0, 0, 4, true);
        r.variable(0, 4, true).leads(0, 124, 120, false).leads(0, 0, 4, false).leads(0, 99, 96, true).leads(0, 100, 99, false);
    }

    // ---- Promise 13 to 16: what holds always, and what comes to be.

    private static void invariantOfNone() {
        quote("Promise 13", "-1 if there is none");
        Run r = new Run().sizes(3, 1, 1).begins(23, 10, 1).guard(0, 23, 10, 1).becomes(0, 0, 2);
        r.draft(10).invariant(-1).empty().draft(4).invariant(-1).empty().draft(21, 0, 10).invariant(-1).empty();
        // 0 is a breach, but not reached; with nothing reached there is no breach of anything.
        r.begins(0).draft(0).invariant(-1).traceIs().empty().init(true).draft(10).invariant(0).traceIs(0);
    }

    private static void invariantRefused() {
        quote("Promise 13", "-2 if it is no expression.");
        noChange("invariant with nothing", r -> r.invariant(-2));
        for (int[] bad : NO_EXPRESSIONS) {
            new Run().draft(bad).invariant(-2).token(0, bad.length < 12 ? bad.length + 1 : -1);
            Run with = sample().draft(bad).invariant(-2);
            unchanged("invariant with " + Arrays.toString(bad), with, sample().draft(bad));
        }
    }

    private static void invariantLeastDepth() {
        quote("Promise 13", "The draft (it stays) as a predicate: the least depth of a reached state for which it is not TRUE");
        Run r = new Run().sizes(5, 1, 1).begins(27, 10).guard(0, 24, 10, 4).becomes(0, 0, 20, 10, 1);
        for (int d = 0; d < 5; d++) {
            // Breaches at d and all that are deeper, and at d alone.
            r.draft(24, 10, d).invariant(d).invariant(d).token(0, 4).empty();
            r.draft(27, 23, 10, d).invariant(d).invariant(d).token(0, 5).empty();
        }
        r = new Run().sizes(5, 5, 5).begins(23, 20, 10, 20, 11, 12, 0).guard(0, 1).becomes(0, 0, 20, 10, 1);
        r.becomes(0, 1, 20, 11, 23, 10, 4).becomes(0, 2, 20, 12, 25, 23, 10, 4, 23, 11, 4);
        r.draft(27, 25, 23, 10, 4, 25, 23, 11, 4, 23, 12, 4).invariant(124).traceIs(range(0, 125));
    }

    private static void traceOfAnotherPlace() {
        quote("Promise 14", "-1 for another k, or if there was none.");
        Run r = new Run().sizes(3, 1, 1).traceIs().invariant(-2).traceIs().draft(1).invariant(-1).traceIs().empty();
        r.begins(27, 10).guard(0, 24, 10, 2).becomes(0, 0, 20, 10, 1).draft(24, 10, 2).invariant(2).traceIs(0, 1, 2).empty();
        r.draft(24, 10, 1).invariant(1).traceIs(0, 1).empty().draft(0).invariant(0).traceIs(0).empty();
        r.draft(24, 10, 2).invariant(2).traceIs(0, 1, 2);
    }

    private static void traceOfTheLatest() {
        quote("Promise 14", "For the latest invariant that answered 0 or more, d: state k (0..d)");
        Run r = new Run().sizes(3, 1, 1).begins(27, 10).guard(0, 24, 10, 2).becomes(0, 0, 20, 10, 1);
        r.draft(24, 10, 2).invariant(2).traceIs(0, 1, 2).token(0, 4).invariant(-2).traceIs(0, 1, 2).empty();
        r.invariant(-2).traceIs(0, 1, 2).draft(1).invariant(-1).traceIs(0, 1, 2).fails(0).traceIs(0, 1, 2).empty();
        // What has been found is not found anew when the specification changes.
        r.begins(0).drop(0, true).sizes(1, 1, 1).traceIs(0, 1, 2).draft(0).invariant(-1).traceIs(0, 1, 2).empty();
        r.init(true).draft(0).invariant(0).traceIs(0);
    }

    private static void traceThatComesFirst() {
        quote("Promise 14", "the row of d + 1 states by steps from an initial one to one for which the predicate is not TRUE that comes first (by the number of its first state, then of the second ..)");
        // 1 -> 2 and 0 -> 3 in one step; the first state decides, though 2 is before 3.
        Run r = new Run().sizes(5, 1, 1).begins(24, 10, 2).guard(0, 24, 10, 2).becomes(0, 0, 21, 3, 10);
        r.draft(24, 10, 2).invariant(1).traceIs(0, 3).empty();
        // From 0 over 1 or 2 to 4: the second decides; then with 1 leading nowhere.
        r = new Run().sizes(5, 1, 1).begins(27, 10).guard(0, 27, 10).becomes(0, 0, 2).guard(1, 27, 10).becomes(1, 0, 1);
        r.guard(2, 25, 10, 24, 10, 3).becomes(2, 0, 4).draft(24, 10, 4).invariant(2).traceIs(0, 1, 4).empty();
        r.guard(2, 23, 10, 2).becomes(2, 0, 4).draft(24, 10, 4).invariant(2).traceIs(0, 2, 4).empty();
        // The last one decides: from 0 to any, the first breach is 3.
        r.guard(3, 27, 10).effect(3, 0, true, true).draft(24, 10, 3).invariant(1).traceIs(0, 3).empty();
        // An initial state that leads to no breach in so few steps, is not the first of a row.
        r.begins(26, 27, 10, 23, 10, 2).drop(3, true).draft(24, 10, 3).invariant(1).traceIs(2, 4).empty();
        r.draft(23, 10, 4).invariant(0).traceIs(0).empty().draft(23, 10, 0).invariant(0).traceIs(2);
        // From the last state of all, over the first one, and to it.
        r = new Run().sizes(5, 1, 1).begins(23, 10, 4).guard(0, 23, 10, 4).becomes(0, 0, 0).guard(1, 27, 10).becomes(1, 0, 3);
        r.draft(27, 23, 10, 3).invariant(2).traceIs(4, 0, 3).empty().draft(10).invariant(1).traceIs(4, 0);
    }

    private static void failsWithNothingHeld() {
        quote("Promise 15", "With P the expression held (TRUE if nothing is) and Q the draft (it stays)");
        Run r = new Run().sizes(3, 1, 1).draft(0).fails(3).fails(3).failingAre(0, 1, 2).token(0, 2).empty();
        r.holds(0).draft(0).fails(0).failingAre().empty().holds(10).draft(0).fails(2).failingAre(1, 2).empty();
        r.hold(true).draft(0).fails(3).failingAre(0, 1, 2);
        // P is for the state alone: a way may lead over states for which it is not TRUE.
        r = new Run().sizes(3, 1, 1).begins(27, 10).holds(27, 10).guard(0, 24, 10, 2).becomes(0, 0, 20, 10, 1);
        r.fair(0, 1, true).failFor(list(0), 0).failFor(list(23, 10, 2));
    }

    private static void failsWithQ() {
        quote("Promise 15", "how many reached states there are for which P is TRUE, and from which a fair behaviour can go on without Q ever being TRUE, in that state neither.");
        // 0 -> 1 -> 2, all fair: Q at the state itself, ahead, or behind.
        Run r = new Run().sizes(4, 1, 1).begins(27, 10).guard(0, 24, 10, 2).becomes(0, 0, 20, 10, 1).fair(0, 1, true);
        r.failFor(list(23, 10, 0), 1, 2).failFor(list(23, 10, 1), 2).failFor(list(23, 10, 2)).failFor(list(23, 10, 3), 0, 1, 2);
        r.failFor(list(1)).failFor(list(0), 0, 1, 2).begins(0).failFor(list(0));
        // All of the most states, and all but one.
        r = new Run().sizes(5, 5, 5).draft(0).fails(125).failingAre(range(0, 125)).empty();
        r.draft(23, 20, 10, 20, 11, 12, 0).fails(124).failingAre(range(1, 125)).empty();
        r.draft(25, 23, 10, 4, 25, 23, 11, 4, 23, 12, 4).fails(124).failingAre(range(0, 124));
    }

    private static void failsInTheMostStates() {
        quote("Promise 15", "from which a fair behaviour can go on without Q ever being TRUE");
        // All states round in one circle, then in one row: the weak action is taken for ever there,
        // and here leads to the last state.
        int[] last = list(25, 23, 10, 4, 25, 23, 11, 4, 23, 12, 4);
        for (int how = 1; how <= 2; how++) {
            Run r = new Run().sizes(5, 5, 5).guard(0, 1).becomes(0, 0, 20, 10, 1).becomes(0, 1, 20, 11, 23, 10, 4);
            r.becomes(0, 2, 20, 12, 25, 23, 10, 4, 23, 11, 4).fair(0, how, true).failFor(list(0), range(0, 125));
            r.failFor(last).failFor(list(23, 20, 10, 20, 11, 12, 0)).guard(0, join(list(27), last)).becomes(0, 0, 20, 10, 1);
            r.becomes(0, 1, 20, 11, 23, 10, 4).becomes(0, 2, 20, 12, 25, 23, 10, 4, 23, 11, 4).fair(0, how, true);
            r.failFor(last).failFor(list(23, 20, 10, 20, 11, 12, 0), range(1, 125));
            // Many small circles, those with v1 = 4 without Q.
            r = new Run().sizes(5, 5, 5).guard(0, 1).becomes(0, 0, 20, 10, 1).fair(0, how, true);
            r.failFor(list(27, 23, 11, 4), join(range(20, 25), range(45, 50), range(70, 75), range(95, 100), range(120, 125)));
        }
    }

    private static void failsWithTwoFairActions() {
        quote("Terms", "It is FAIR if no weak action is, from some state on, always enabled and never taken, and no strong one");
        for (int pair = 0; pair < 16; pair++) {
            int a = pair / 4;
            int b = pair % 4;
            for (int how = 0; how < 4 && a != b; how++) {
                Run r = new Run().sizes(2, 2, 1).begins(23, 20, 10, 11, 0).guard(a, 27, 10).becomes(a, 0, 1);
                r.guard(b, 27, 11).becomes(b, 1, 1).fair(a, 1 + how / 2, true).fair(b, 1 + how % 2, true);
                r.failFor(list(25, 10, 11)).fair(b, 0, true).failFor(list(25, 10, 11), 0, 1).fair(b, 1 + how % 2, true);
                r.fair(a, 0, true).failFor(list(25, 10, 11), 0, 2).fair(b, 0, true).failFor(list(25, 10, 11), 0, 1, 2);
            }
        }
    }

    private static void failsRefused() {
        quote("Promise 15", "-2 if the draft is no expression.");
        noChange("fails with nothing", r -> r.fails(-2));
        for (int[] bad : NO_EXPRESSIONS) {
            new Run().draft(bad).fails(-2).token(0, bad.length < 12 ? bad.length + 1 : -1);
            Run with = sample().draft(bad).fails(-2);
            unchanged("fails with " + Arrays.toString(bad), with, sample().draft(bad));
        }
    }

    private static void failingOfNone() {
        quote("Promise 16", "The k-th (0 first) of these states by number, as the latest fails that was not -2 found them; -1 if there is none.");
        Run r = new Run().sizes(3, 1, 1).failingAre().fails(-2).failingAre().draft(23, 10, 1).fails(2).failingAre(0, 2);
        r.token(0, 4).fails(-2).failingAre(0, 2).empty().fails(-2).failingAre(0, 2);
        r.draft(0).invariant(0).failingAre(0, 2).empty();
        // What has been found is not found anew when the specification changes.
        r.begins(0).holds(0).sizes(1, 1, 1).failingAre(0, 2).draft(0).fails(0).failingAre().empty();
        r.init(true).hold(true).draft(0).fails(1).failingAre(0).empty().draft(1).fails(0).failingAre();
    }

    // ---- Promise 17.

    private static void draftIsEmptyThen() {
        quote("Promise 17", "action, effect, init, hold: the draft is empty then, whatever the answer is.");
        for (int[] bad : NO_EXPRESSIONS) {
            new Run().draft(bad).action(0, false).token(1, 1);
            new Run().guard(0, 1).draft(bad).effect(0, 0, false, false).token(1, 1);
            new Run().draft(bad).init(false).token(1, 1);
            new Run().draft(bad).hold(false).token(1, 1);
        }
        for (int[] good : new int[][] {{1}, {20, 1, 1}, {27, 27, 27, 27, 27, 27, 27, 27, 27, 27, 27, 1}}) {
            new Run().draft(good).action(0, true).token(1, 1);
            new Run().draft(good).action(4, false).token(1, 1);
            new Run().draft(good).action(-1, false).token(1, 1);
            new Run().guard(0, 1).draft(good).effect(0, 0, true, true).token(1, 1);
            new Run().guard(0, 1).draft(good).effect(0, 3, false, false).token(1, 1);
            new Run().guard(0, 1).draft(good).effect(4, 0, true, false).token(1, 1);
            new Run().draft(good).effect(0, 0, false, false).token(1, 1);
            new Run().draft(good).init(true).token(1, 1);
            new Run().draft(good).hold(true).token(1, 1);
        }
        new Run().action(0, false).effect(0, 0, true, false).init(true).hold(true).token(1, 1);
    }

    private static void refusedChangesNothing() {
        quote("Promise 17", "Where nothing else is said, a call that is refused (by a code below 0 that is named, or by false) changes nothing.");
        noChangeOfDraft("all calls that are refused and leave the draft", r -> {
            r.variable(3, 1, false).variable(0, 0, false).token(5, -1).fair(3, 1, false).fair(0, 3, false);
            r.drop(3, false).count(6, -1).state(6, 0, -1).state(0, 6, -1).leads(3, 0, 0, false);
            r.invariant(-2).trace(3, -1).fails(-2).failing(4, -1);
        });
        noChange("all calls that are refused and empty the draft", r -> {
            r.draft(1).action(4, false).draft(20, 1).action(0, false).action(0, false);
            r.draft(1).effect(0, 3, true, false).draft(1).effect(3, 0, true, false).draft(1, 1).effect(0, 0, true, false);
            r.draft(20).init(false).draft(20).hold(false);
        });
        // Questions that are answered change nothing either, but for trace and failing.
        noChangeOfDraft("questions", r -> r.counts(6, 1, 6, 3).state(0, 1, 3).leads(0, 0, 1, true).trace(0, 0).failing(0, 0));
        noChange("an invariant without a breach", r -> r.draft(1).invariant(-1).empty());
    }

    private static void objectsLieApart() {
        sentence = "Promise 1: what one object is told is not told to another one";
        sample();
        new Run().counts(1, 1, 1, 0, 1, 0, -1).traceIs().failingAre().token(0, 1).fails(1);
    }

    private static void terms() {
        atMost512Calls();
        variablesHaveValues();
        numbersOfStates();
        twelveTokens();
        twelveTokensSideBySide();
        intsThatWrap();
        numbersAndNames();
        oneOrZero();
        ifElse();
        fourActions();
        remainderAsOnTheClock();
        anyValue();
        guardThatIsNotTrue();
        oldValues();
        initOrNone();
        stuttering();
        reachedAndDepth();
        enabledIfToAnother();
        taken();
        threeKindsOfFairness();
        endlessRows();
        alwaysEnabledAndNeverTaken();
        endlesslyOftenEnabled();
    }

    private static void changes() {
        newObject();
        objectsLieApart();
        variableOutOfRange();
        variableFromNowOn();
        tokenRefused();
        tokenCounts();
        actionTakesTheDraft();
        actionBeginsAnew();
        actionRefused();
        effectOfAnEmptyDraft();
        effectRefused();
        fairRefused();
        dropRefused();
        initOfAnEmptyDraft();
        initRefused();
        holdTakesTheDraft();
        holdRefused();
        holdOfAnEmptyDraft();
    }

    private static void questions() {
        countOfNone();
        countOfTheMost();
        countOfDeadEnds();
        countOfPairs();
        countOfOthers();
        stateNotReached();
        stateEnabled();
        stateValues();
        stateOfOthers();
        leadsNotThere();
        invariantOfNone();
        invariantRefused();
        invariantLeastDepth();
        traceOfAnotherPlace();
        traceOfTheLatest();
        traceThatComesFirst();
        failsWithNothingHeld();
        failsWithQ();
        failsInTheMostStates();
        failsWithTwoFairActions();
        failsRefused();
        failingOfNone();
        draftIsEmptyThen();
        refusedChangesNothing();
    }

    public static void main(String[] args) {
        theLookSeesChanges();
        terms();
        changes();
        questions();
        System.out.println(sentences + " sentences, " + asked + " things asked, " + wrong + " not as due");
        if (wrong != 0) {
            System.exit(1);
        }
    }
}
