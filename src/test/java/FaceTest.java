import java.io.IOException;
import java.lang.reflect.Constructor;
import java.lang.reflect.Field;
import java.lang.reflect.Method;
import java.lang.reflect.Modifier;
import java.nio.file.Files;
import java.nio.file.Path;
import java.util.Arrays;
import java.util.List;
import java.util.Map;
import java.util.Set;
import java.util.TreeMap;
import java.util.TreeSet;
import java.util.regex.Matcher;
import java.util.regex.Pattern;

/** The class has the public face of the document, and keeps to what a test can see of LANGUAGE.md. */
public final class FaceTest {
    private static final List<String> FACE = List.of(
        "boolean variable(int, int)", "int token(int)", "boolean action(int)",
        "boolean effect(int, int, boolean)", "boolean fair(int, int)", "boolean drop(int)",
        "boolean init()", "boolean hold()", "int count(int)", "int state(int, int)",
        "boolean leads(int, int, int)", "int invariant()", "int trace(int)", "int fails()",
        "int failing(int)");

    private static final List<String> TYPES = List.of(
        "int", "long", "short", "byte", "char", "boolean",
        "int[]", "long[]", "short[]", "byte[]", "char[]", "boolean[]", "void");

    private static final List<String> FORBIDDEN = List.of(
        "import", "package", "throw", "throws", "try", "catch", "synchronized", "assert",
        "instanceof", "null", "float", "double", "String", "Math", "Integer", "Long", "System",
        "Arrays", "Object", "interface", "enum", "record", "this", "->", "::", "\"");

    private static final Set<String> WORDS_BEFORE_BRACKETS = Set.of("if", "for", "switch", "return");

    private static final Pattern HEAD = Pattern.compile("(?m)^    (?:public|private) (?:\\w+ )?(\\w+)\\([^)]*\\) \\{$");
    private static final Pattern CALL = Pattern.compile("\\b([A-Za-z_]\\w*) ?\\(");
    private static final Pattern COUNTED =
        Pattern.compile("for \\(int (\\w+) = [^;]+; [^;]*\\b\\1 (?:<|<=|>|>=) [^;]+; \\1(?:\\+\\+|--)\\) \\{");

    private static int wrong = 0;

    private static void check(String what, boolean fine) {
        if (!fine) {
            wrong++;
            System.out.println("not so: " + what);
        }
    }

    private static String signature(Method m) {
        StringBuilder text = new StringBuilder(m.getReturnType().getSimpleName() + " " + m.getName() + "(");
        for (int i = 0; i < m.getParameterCount(); i++) {
            text.append(i == 0 ? "" : ", ").append(m.getParameterTypes()[i].getSimpleName());
        }
        return text + ")";
    }

    private static void members() {
        Class<FairChecker> c = FairChecker.class;
        check("public and final", (c.getModifiers() & (Modifier.PUBLIC | Modifier.FINAL)) == (Modifier.PUBLIC | Modifier.FINAL));
        check("no nested class", c.getDeclaredClasses().length == 0);
        Constructor<?>[] made = c.getDeclaredConstructors();
        check("one public constructor without arguments",
            made.length == 1 && Modifier.isPublic(made[0].getModifiers()) && made[0].getParameterCount() == 0);
        TreeSet<String> face = new TreeSet<>();
        TreeSet<String> publicNames = new TreeSet<>();
        for (Method m : c.getDeclaredMethods()) {
            if (Modifier.isPublic(m.getModifiers())) {
                face.add(signature(m));
                publicNames.add(m.getName());
            }
        }
        check("the methods of the document and no other: " + face, face.equals(new TreeSet<>(FACE)));
        for (Method m : c.getDeclaredMethods()) {
            boolean hidden = Modifier.isPrivate(m.getModifiers());
            check(m + " is public or private", hidden || Modifier.isPublic(m.getModifiers()));
            check(m + " has a name of its own", !hidden || !publicNames.contains(m.getName()));
            check(m + " answers a number or nothing", TYPES.contains(m.getReturnType().getSimpleName())
                && !m.getReturnType().isArray());
            check(m + " has at most seven parameters", m.getParameterCount() <= 7);
        }
    }

    private static void fields() {
        int own = 0;
        for (Field f : FairChecker.class.getDeclaredFields()) {
            String type = f.getType().getSimpleName();
            boolean constant = Modifier.isStatic(f.getModifiers());
            own += constant ? 0 : 1;
            check(f + " is private", Modifier.isPrivate(f.getModifiers()) || f.getName().equals("NONE"));
            check(f + " has a type that is allowed", TYPES.contains(type));
            check(f + " stays the same array", !f.getType().isArray() || Modifier.isFinal(f.getModifiers()));
            check(f + " is a constant of int or long", !constant
                || Modifier.isFinal(f.getModifiers()) && (type.equals("int") || type.equals("long")));
        }
        check("at most forty fields", own <= 40);
        check("NONE", FairChecker.NONE == -1);
    }

    private static String withoutComments(String text) {
        return text.replaceAll("(?s)/\\*.*?\\*/", "").replaceAll("//[^\n]*", "");
    }

    private static void source(String text) {
        String code = withoutComments(text);
        for (String word : FORBIDDEN) {
            boolean name = Character.isLetter(word.charAt(0));
            String[] parts = name ? code.split("[^A-Za-z0-9_]+") : new String[0];
            boolean found = name ? Arrays.asList(parts).contains(word) : code.contains(word);
            check("the program does without " + word, !found);
        }
        int start = 0;
        String[] lines = text.split("\n");
        for (int i = 0; i < lines.length; i++) {
            if (lines[i].startsWith("    p") && lines[i].endsWith("{")) {
                start = i;
            }
            check("the method at line " + (start + 1) + " is short", !lines[i].equals("    }") || i - start < 60);
            check("arrays are made in fields, line " + (i + 1), !lines[i].matches(" {8}.*\\bnew\\b.*"));
        }
    }

    private static Map<String, String> bodies(String code) {
        Map<String, String> bodies = new TreeMap<>();
        Matcher head = HEAD.matcher(code);
        while (head.find()) {
            int end = code.indexOf("\n    }\n", head.end());
            String before = bodies.put(head.group(1), code.substring(head.end(), end));
            check("one method alone is named " + head.group(1), before == null);
        }
        return bodies;
    }

    private static int closing(String body, int open) {
        int depth = 0;
        for (int i = open; i < body.length(); i++) {
            depth += body.charAt(i) == '(' ? 1 : body.charAt(i) == ')' ? -1 : 0;
            if (depth == 0) {
                return i;
            }
        }
        return body.length();
    }

    /** What a piece of code calls; it may call methods of the class alone. */
    private static Set<String> calls(String body, Set<String> own) {
        Set<String> found = new TreeSet<>();
        Matcher call = CALL.matcher(body);
        while (call.find()) {
            String name = call.group(1);
            if (!WORDS_BEFORE_BRACKETS.contains(name)) {
                found.add(name);
                check(name + " is a method of the class", own.contains(name));
                String arguments = body.substring(call.end(), closing(body, call.end() - 1));
                check("no call stands inside the arguments of " + name, calls(arguments, own).isEmpty());
            }
        }
        return found;
    }

    /** How many calls each method goes deep, itself one; where they go in a ring, more than six. */
    private static Map<String, Integer> deep(Map<String, Set<String>> called) {
        Map<String, Integer> deep = new TreeMap<>();
        for (int round = 0; round <= 6; round++) {
            Map<String, Integer> before = new TreeMap<>(deep);
            called.forEach((name, next) -> deep.put(name,
                1 + next.stream().mapToInt(n -> before.getOrDefault(n, 0)).max().orElse(0)));
        }
        return deep;
    }

    private static void callsAndLoops(String text) {
        String code = withoutComments(text);
        Map<String, String> bodies = bodies(code);
        int methods = FairChecker.class.getDeclaredMethods().length;
        check("all methods and the constructor are seen", bodies.size() == methods + 1);
        Map<String, Set<String>> called = new TreeMap<>();
        bodies.forEach((name, body) -> called.put(name, calls(body, bodies.keySet())));
        deep(called).forEach((name, d) -> check(name + " goes at most six calls deep, in no ring", d <= 6));
        int loops = code.split("\\bfor\\b", -1).length - 1;
        check("every loop counts against a bound", COUNTED.matcher(code).results().count() == loops);
        check("there are no other loops", !Pattern.compile("\\b(while|do)\\b").matcher(code).find());
    }

    public static void main(String[] args) throws IOException {
        String text = Files.readString(Path.of("src/main/java/FairChecker.java"));
        members();
        fields();
        source(text);
        callsAndLoops(text);
        System.out.println(wrong == 0 ? "the face is as due" : wrong + " things are not as due");
        if (wrong != 0) {
            System.exit(1);
        }
    }
}
