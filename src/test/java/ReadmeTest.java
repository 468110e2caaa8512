import java.io.IOException;
import java.lang.reflect.Method;
import java.lang.reflect.Modifier;
import java.nio.file.Files;
import java.nio.file.Path;
import java.util.List;
import java.util.regex.Matcher;
import java.util.regex.Pattern;
import java.util.stream.Stream;

/** README.md tells the truth: its example is run, and what it must name is looked for. */
public final class ReadmeTest {
    private static final Pattern CALL = Pattern.compile("x\\.(\\w+)\\(([^)]*)\\);");
    private static final Pattern DUE = Pattern.compile("//\\s*(-?\\d+|true|false)\\b");

    private static int asked = 0;
    private static int wrong = 0;

    private static void check(String what, boolean fine) {
        asked++;
        if (!fine) {
            wrong++;
            System.out.println("not so: " + what);
        }
    }

    private static Object[] arguments(String text) {
        if (text.isBlank()) {
            return new Object[0];
        }
        return Stream.of(text.split(",")).map(String::trim).map(ReadmeTest::argument).toArray();
    }

    private static Object argument(String word) {
        boolean truth = word.equals("true") || word.equals("false");
        return truth ? (Object) Boolean.valueOf(word) : (Object) Integer.valueOf(word);
    }

    private static Method method(String name) {
        for (Method m : FairChecker.class.getDeclaredMethods()) {
            if (Modifier.isPublic(m.getModifiers()) && m.getName().equals(name)) {
                return m;
            }
        }
        throw new IllegalArgumentException("README.md calls " + name + ", which is no method");
    }

    private static boolean isRefusal(Object answer) {
        return answer.equals(false) || answer instanceof Integer && (Integer) answer < 0;
    }

    private static int example(List<String> lines) throws ReflectiveOperationException {
        FairChecker x = new FairChecker();
        int answers = 0;
        for (String line : lines) {
            if (!line.startsWith("    x.")) {
                continue;
            }
            Object answer = null;
            Matcher call = CALL.matcher(line);
            Matcher due = DUE.matcher(line);
            boolean told = due.find();
            while (call.find()) {
                answer = method(call.group(1)).invoke(x, arguments(call.group(2)));
                check(line + " is refused", told || !isRefusal(answer));
            }
            if (told) {
                answers++;
                check(line + " answered " + answer, due.group(1).equals(String.valueOf(answer)));
            }
        }
        return answers;
    }

    private static void names(String text) throws IOException {
        for (Method m : FairChecker.class.getDeclaredMethods()) {
            if (Modifier.isPublic(m.getModifiers())) {
                check("README.md tells of " + m.getName(), text.contains("| `" + m.getName() + "("));
            }
        }
        try (Stream<Path> tests = Files.list(Path.of("src/test/java"))) {
            tests.map(p -> p.getFileName().toString().replace(".java", "")).forEach(
                name -> check("README.md tells of " + name, text.contains("- `" + name + "`:")));
        }
        check("README.md tells how to run the tests", text.contains("    .ci/run\n"));
        check(".ci/run can be run", Files.isExecutable(Path.of(".ci/run")));
    }

    private static void draft(FairChecker x, int... tokens) {
        for (int t : tokens) {
            x.token(t);
        }
    }

    private static void draftGoesBeforeAny() {
        FairChecker x = new FairChecker();
        x.variable(0, 3);
        draft(x, 1);
        x.action(0);
        draft(x, 2);
        check("an effect with a draft is taken", x.effect(0, 0, true));
        check("it leads to 2", x.leads(0, 0, 2));
        check("it does not lead to 1", !x.leads(0, 0, 1));
    }

    private static void statesNotReached() {
        FairChecker x = new FairChecker();
        x.variable(0, 3);
        draft(x, 0);
        x.init();
        draft(x, 1);
        x.action(1);
        draft(x, 20, 10, 1);
        x.effect(1, 0, false);
        check("none is reached", x.count(2) == 0);
        check("an action is enabled in a state that is not reached", x.state(1, 1) == 2);
        check("a state that is not reached has values", x.state(2, 3) == 2);
        check("an action leads between states that are not reached", x.leads(1, 1, 2));
    }

    private static void foundThen() {
        FairChecker x = new FairChecker();
        x.variable(0, 3);
        draft(x, 24, 10, 2);
        check("state 2 breaks it", x.invariant() == 0);
        check("it does not come to be from state 2", x.fails() == 1);
        x.variable(0, 1);
        check("the trace stays", x.trace(0) == 2);
        check("the failing state stays", x.failing(0) == 2);
    }

    public static void main(String[] args) throws IOException, ReflectiveOperationException {
        Path readme = Path.of("README.md");
        int answers = example(Files.readAllLines(readme));
        check("the example tells answers", answers >= 5);
        names(Files.readString(readme));
        draftGoesBeforeAny();
        statesNotReached();
        foundThen();
        System.out.println(asked + " things asked of README.md, " + wrong + " not as due");
        if (wrong != 0) {
            System.exit(1);
        }
    }
}
