import java.io.IOException;
import java.lang.reflect.InvocationTargetException;
import java.lang.reflect.Method;
import java.lang.reflect.Modifier;
import java.nio.file.DirectoryStream;
import java.nio.file.Files;
import java.nio.file.Path;
import java.util.ArrayList;
import java.util.List;
import java.util.Set;
import java.util.TreeSet;
import java.util.regex.Matcher;
import java.util.regex.Pattern;

/** The calls that README.md shows answer as it says; it shows every call of the face and names every test. */
public final class ReadmeTests {
    private static final Path README = Path.of("README.md");
    private static final Path TESTS = Path.of("src", "test", "java");
    private static final String NEW_BENCH = "MossRings bench = new MossRings();";
    private static final Pattern CALL = Pattern.compile("bench\\.(\\w+)\\(([^)]*)\\); +// (.+)");
    /** An answer alone, or with what is said of it behind a colon. */
    private static final Pattern ANSWER = Pattern.compile("([^:]+)(?:: (.+))?");
    private static final Pattern OUT = Pattern.compile("OUT is ((?:\\d+)(?: \\d+)*)(?:, .*)?");
    private static final Set<String> MAKE_OUT = Set.of("table", "row", "ring", "behind", "ringsBehind", "missed");

    private static final Set<String> shown = new TreeSet<>();
    private static int wrong = 0;

    public static void main(String[] args) throws IOException, IllegalAccessException {
        readerTellsRightFromWrong();
        shown.clear();
        List<String> lines = Files.readAllLines(README);
        wrong += wrongLines(lines, true);
        due("every call of the face is shown, not " + shown + " alone", shown.equals(face()));
        namesEveryTest(String.join("\n", lines));
        if (wrong != 0) {
            System.out.println(wrong + " places of README.md are not as due");
            System.exit(1);
        }
    }

    /** What is shown would hold nothing if the reader overlooked a wrong answer. */
    private static void readerTellsRightFromWrong() throws IllegalAccessException {
        due("right answers", wrongCalls("bench.count(0); // 0", "bench.end(0); // true: so") == 0);
        due("right NONE", wrongCalls("bench.count(3); // NONE: no such") == 0);
        due("right throw", wrongCalls("bench.octet(0); // throws NoSuchElementException") == 0);
        due("wrong number", wrongCalls("bench.count(0); // 1") == 1);
        due("wrong boolean", wrongCalls("bench.end(0); // false") == 1);
        due("wrong throw", wrongCalls("bench.count(0); // throws NoSuchElementException") == 1);
        due("no throw", wrongCalls("bench.octet(0); // 0") == 1);
        due("no answer", wrongCalls("bench.count(0);") == 1);
        due("no such call", wrongCalls("bench.counts(0); // 0") == 1);
        due("too many arguments", wrongCalls("bench.count(0, 0); // 0") == 1);
        String[] identity = {"bench.feed(0x00010000, 0, 0, 0, 0); // 20", "bench.end(2); // true",
            "bench.rule(0, 2, 1); // true", "bench.table(0); // 2: OUT is 0 1"};
        due("right OUT", wrongCalls(identity) == 0);
        for (String answer : new String[] {"OUT is 0 0", "OUT is 0", "OUT is 0 1 0", "the table"}) {
            identity[3] = "bench.table(0); // 2: " + answer;
            due("wrong OUT: " + answer, wrongCalls(identity) == 1);
        }
    }

    private static int wrongCalls(String... calls) throws IllegalAccessException {
        List<String> lines = new ArrayList<>(List.of("```java", NEW_BENCH));
        lines.addAll(List.of(calls));
        lines.add("```");
        return wrongLines(lines, false);
    }

    /** Each block is a run: its lines make a new object or call it. */
    private static int wrongLines(List<String> lines, boolean tells) throws IllegalAccessException {
        int wrongLines = 0;
        MossRings bench = null;
        boolean inside = false;
        for (String line : lines) {
            if (line.startsWith("```")) {
                inside = line.equals("```java");
                bench = null;
            } else if (inside && line.equals(NEW_BENCH)) {
                bench = new MossRings();
            } else if (inside) {
                String fault = bench == null ? "there is no bench" : fault(bench, line);
                wrongLines += fault.isEmpty() ? 0 : 1;
                if (tells && !fault.isEmpty()) {
                    System.out.println("README.md: " + line + " -- " + fault);
                }
            }
        }
        return wrongLines;
    }

    /** What is wrong with a line that shows a call, or an empty text. */
    private static String fault(MossRings bench, String line) throws IllegalAccessException {
        Matcher call = CALL.matcher(line);
        if (!call.matches()) {
            return "it is no call with its answer";
        }
        Method method = methodOf(call.group(1));
        Object[] arguments = argumentsOf(call.group(2));
        Matcher answer = ANSWER.matcher(call.group(3));
        if (method == null || method.getParameterCount() != arguments.length || !answer.matches()) {
            return "there is no such call";
        }
        shown.add(method.getName());
        String got = answerOf(bench, method, arguments);
        String want = answer.group(1).equals("NONE") ? String.valueOf(MossRings.NONE) : answer.group(1);
        if (!got.equals(want)) {
            return "it answers " + got;
        }
        boolean makesOut = MAKE_OUT.contains(method.getName()) && Long.parseLong(got) > 0;
        return makesOut ? outFault(bench, answer.group(2)) : "";
    }

    private static String outFault(MossRings bench, String said) {
        String got = outOf(bench);
        Matcher out = OUT.matcher(said == null ? "" : said);
        return out.matches() && out.group(1).equals(got) ? "" : "OUT is " + got;
    }

    private static String outOf(MossRings bench) {
        StringBuilder bytes = new StringBuilder();
        for (int k = 0; k < bench.count(2); k++) {
            bytes.append(k == 0 ? "" : " ").append(bench.octet(k));
        }
        return bytes.toString();
    }

    private static String answerOf(MossRings bench, Method method, Object[] arguments) throws IllegalAccessException {
        try {
            return String.valueOf(method.invoke(bench, arguments));
        } catch (InvocationTargetException e) {
            return "throws " + e.getCause().getClass().getSimpleName();
        }
    }

    private static Method methodOf(String name) {
        for (Method method : MossRings.class.getDeclaredMethods()) {
            if (Modifier.isPublic(method.getModifiers()) && method.getName().equals(name)) {
                return method;
            }
        }
        return null;
    }

    private static Object[] argumentsOf(String text) {
        if (text.isEmpty()) {
            return new Object[0];
        }
        String[] written = text.split(", ");
        Object[] arguments = new Object[written.length];
        for (int i = 0; i < written.length; i++) {
            arguments[i] = Long.decode(written[i]).intValue();
        }
        return arguments;
    }

    private static Set<String> face() {
        Set<String> names = new TreeSet<>();
        for (Method method : MossRings.class.getDeclaredMethods()) {
            if (Modifier.isPublic(method.getModifiers())) {
                names.add(method.getName());
            }
        }
        return names;
    }

    private static void namesEveryTest(String readme) throws IOException {
        try (DirectoryStream<Path> tests = Files.newDirectoryStream(TESTS, "*.java")) {
            for (Path test : tests) {
                String name = test.getFileName().toString().replace(".java", "");
                due("it says what " + name + " tests", readme.contains("\n- `" + name + "`: "));
            }
        }
    }

    private static void due(String what, boolean holds) {
        if (!holds) {
            wrong++;
            System.out.println("not so: " + what);
        }
    }
}
