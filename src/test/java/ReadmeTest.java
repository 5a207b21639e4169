import java.io.IOException;
import java.lang.reflect.InvocationTargetException;
import java.lang.reflect.Method;
import java.lang.reflect.Modifier;
import java.nio.file.Files;
import java.nio.file.Path;
import java.util.ArrayList;
import java.util.List;
import java.util.Set;
import java.util.TreeSet;
import java.util.regex.Matcher;
import java.util.regex.Pattern;
import java.util.stream.Collectors;
import java.util.stream.Stream;

/**
 * What README.md says holds: its Java examples, read as one run of calls on one object, are carried out
 * line by line, and what stands behind a call is its answer; the tests that it lists are those that
 * .ci/run takes. Run from the project's folder, as .ci/run does.
 */
public final class ReadmeTest {
    private static final Path README = Path.of("README.md");
    private static final Path TESTS = Path.of("src/test/java");
    private static final Path SHARED_TESTS = Path.of("../shared/tests");
    private static final Path RUN = Path.of(".ci/run");
    private static final Set<String> CODES = Set.of("BAD_ARG", "FULL", "BAD_STACK", "NONE");

    private static final String MADE = "ProcessLog p = new ProcessLog();";
    /** A call; behind it the answer up to the end or a colon, which may be followed by a code's number. */
    private static final Pattern CALL = Pattern.compile("p\\.(\\w+)\\((-?\\d*)\\);(?:\\s+// (.*))?");
    private static final Pattern ANSWER = Pattern.compile("([^:]+?)(?:: (-\\d+),.*|: .*)?");
    private static final Pattern LISTED = Pattern.compile("- `(\\w+)`: .*");

    private static ProcessLog p;
    private static final Set<String> called = new TreeSet<>();
    private static int checks = 0;
    private static int wrong = 0;

    private static void hold(boolean holds, String what) {
        checks++;
        if (!holds) {
            wrong++;
            System.out.println("does not hold: " + what);
        }
    }

    private static List<String> fenced(List<String> lines, String language) {
        List<String> inside = new ArrayList<>();
        boolean open = false;
        for (String line : lines) {
            if (line.startsWith("```")) {
                open = line.equals("```" + language);
            } else if (open) {
                inside.add(line);
            }
        }
        return inside;
    }

    private static String numberOf(String answer) throws ReflectiveOperationException {
        boolean code = CODES.contains(answer);
        return code ? String.valueOf(ProcessLog.class.getField(answer).getInt(null)) : answer;
    }

    private static Object answerOf(Method method, String argument) throws ReflectiveOperationException {
        called.add(method.getName());
        return argument.isEmpty() ? method.invoke(p) : method.invoke(p, Integer.parseInt(argument));
    }

    private static void checkAnswer(String line, String said, Object got) throws ReflectiveOperationException {
        Matcher answer = ANSWER.matcher(said == null ? "" : said);
        if (!answer.matches()) {
            hold(false, "an answer stands behind " + line);
            return;
        }
        String due = numberOf(answer.group(1));
        hold(due.equals(String.valueOf(got)), line + " (it answered " + got + ")");
        if (answer.group(2) != null) {
            hold(answer.group(2).equals(due), line + " (the code's number)");
        }
    }

    private static void carryOut(String line) throws ReflectiveOperationException {
        Matcher call = CALL.matcher(line);
        if (line.equals(MADE)) {
            p = new ProcessLog();
        } else if (!call.matches() || p == null) {
            hold(false, "this is a call on p: " + line);
        } else {
            String argument = call.group(2);
            Method method = argument.isEmpty()
                ? ProcessLog.class.getMethod(call.group(1))
                : ProcessLog.class.getMethod(call.group(1), int.class);
            Object got = answerOf(method, argument);
            if (method.getReturnType() != void.class) {
                checkAnswer(line, call.group(3), got);
            }
        }
    }

    private static void checkExamples(List<String> readme) throws ReflectiveOperationException {
        for (String line : fenced(readme, "java")) {
            carryOut(line);
        }
        for (Method method : ProcessLog.class.getDeclaredMethods()) {
            if (Modifier.isPublic(method.getModifiers())) {
                hold(called.contains(method.getName()), "an example shows " + method.getName());
            }
        }
    }

    private static Set<String> javaFilesIn(Path folder) throws IOException {
        try (Stream<Path> files = Files.walk(folder)) {
            return files.filter(f -> f.toString().endsWith(".java"))
                .map(f -> folder.relativize(f).toString())
                .collect(Collectors.toCollection(TreeSet::new));
        }
    }

    private static void checkTests(List<String> readme) throws IOException {
        Set<String> listed = new TreeSet<>();
        for (String line : readme) {
            Matcher test = LISTED.matcher(line);
            if (test.matches()) {
                listed.add(test.group(1) + ".java");
            }
        }
        Set<String> own = javaFilesIn(TESTS);
        hold(listed.equals(own), "the listed tests are " + own + ", but they are " + listed);
        hold(javaFilesIn(Path.of("src/test")).size() == own.size(), "every test is in " + TESTS);
        for (String file : javaFilesIn(SHARED_TESTS)) {
            hold(Path.of(file).getNameCount() == 1, file + " is where .ci/run looks for it");
        }
        for (String file : own) {
            hold(Path.of(file).getNameCount() == 1, file + " is where .ci/run looks for it");
        }
        hold(fenced(readme, "sh").equals(List.of(RUN.toString())), "the tests are run with " + RUN);
        hold(Files.isExecutable(RUN), RUN + " can be run");
    }

    public static void main(String[] args) throws IOException, ReflectiveOperationException {
        List<String> readme = Files.readAllLines(README);
        try {
            checkExamples(readme);
        } catch (InvocationTargetException e) {
            hold(false, "no call throws, but one threw " + e.getCause());
        }
        checkTests(readme);
        System.out.println(checks + " checks, " + wrong + " wrong");
        if (wrong != 0) {
            System.exit(1);
        }
    }
}
