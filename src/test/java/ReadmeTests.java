import java.io.IOException;
import java.lang.reflect.Method;
import java.lang.reflect.Modifier;
import java.nio.file.Files;
import java.nio.file.Path;
import java.util.Arrays;
import java.util.Set;
import java.util.TreeSet;
import java.util.regex.MatchResult;
import java.util.regex.Matcher;
import java.util.regex.Pattern;
import java.util.stream.Collectors;
import java.util.stream.Stream;

/** What README.md says of the use of the class and of its tests is as the class answers and as .ci/run does. */
public final class ReadmeTests {
    private static final Path README = Path.of("README.md");
    private static final Path DOCUMENT = Path.of("../shared/DOC.md");
    private static final Path TESTS = Path.of("src/test/java");
    private static final Pattern EXAMPLE = Pattern.compile("x\\.(\\w+)\\((.*)\\); +// (-?\\d+)(?:: .*)?");
    private static final Pattern CALL = Pattern.compile("\\| `(\\w+\\(.*\\))` \\| .* \\|(.*)\\|");
    private static final Pattern LINE = Pattern.compile("\\| `([a-z]+(?: [A-Z])*)` \\| .* \\|");
    private static final Pattern PROMISE = Pattern.compile("## Promise \\d+: (\\w+)\n\n`int (.*?)`: (.*)\n");
    private static final Pattern REFUSAL = Pattern.compile("\\b(UNKNOWN|OUTSIDE|NOT|FULL)\\b");
    private static final Pattern TEST = Pattern.compile("`(\\w+Tests)`");
    private static final int CALLS = 25;
    private static final int LINES = 9;

    private static final Checks checks = new Checks("readme");

    private ReadmeTests() {
    }

    public static void main(String[] args) throws IOException, ReflectiveOperationException {
        String readme = Files.readString(README);
        exampleAnswers(between(readme, "```java\n", "```"));
        linesAreRead(between(readme, "### The text", "### The calls"));
        callsAreTheFace(between(readme, "### The calls", "## Tests"));
        callsAreTheDocuments(between(readme, "### The calls", "## Tests"), Files.readString(DOCUMENT));
        testsAreThere(between(readme, "## Tests", "It ends with"));
        checks.end();
    }

    private static String between(String all, String head, String foot) {
        int from = all.indexOf(head);
        int to = from < 0 ? -1 : all.indexOf(foot, from + head.length());
        checks.holds("'" + head.trim() + "' stands there", to >= 0);
        return to < 0 ? "" : all.substring(from + head.length(), to);
    }

    private static Set<String> faceNames() {
        return Arrays.stream(ThirdLetter.class.getDeclaredMethods()).filter(m -> Modifier.isPublic(m.getModifiers()))
            .map(Method::getName).collect(Collectors.toCollection(TreeSet::new));
    }

    private static void exampleAnswers(String example) throws ReflectiveOperationException {
        checks.about("the example");
        ThirdLetter x = new ThirdLetter();
        Set<String> shown = new TreeSet<>();
        for (String line : example.split("\n")) {
            if (line.startsWith("ThirdLetter x = new ThirdLetter();")) continue;
            Matcher m = EXAMPLE.matcher(line);
            checks.holds("a call and its answer: " + line, m.matches());
            if (!m.matches()) continue;
            checks.due(line, answer(x, m.group(1), m.group(2)), Long.parseLong(m.group(3)));
            shown.add(m.group(1));
        }
        checks.holds("each call is shown, these are: " + shown, shown.equals(faceNames()));
    }

    private static int answer(ThirdLetter x, String name, String parts) throws ReflectiveOperationException {
        String[] numbers = parts.isEmpty() ? new String[0] : parts.split(", ");
        for (Method m : ThirdLetter.class.getDeclaredMethods()) {
            if (!m.getName().equals(name) || m.getParameterCount() != numbers.length) continue;
            Object[] values = new Object[numbers.length];
            for (int i = 0; i < values.length; i++) values[i] = number(numbers[i], m.getParameterTypes()[i]);
            return (Integer) m.invoke(x, values);
        }
        checks.holds("there is a call " + name + " with " + numbers.length, false);
        return 0;
    }

    private static Object number(String written, Class<?> type) {
        long value = Long.decode(written.replaceFirst("L$", ""));
        if (type == long.class) return value;
        return (int) value;
    }

    /** The lines of the table, with numbers and letters that can stand there, and with one too few. */
    private static void linesAreRead(String text) {
        checks.about("lines of a text");
        int lines = 0;
        for (MatchResult m : LINE.matcher(text).results().toList()) {
            String line = m.group(1).replace(" V", " 2").replace(" L", " ab").replaceAll(" [SABIN]", " 1");
            checks.due("fault() of '" + line + "'", Checks.faultOf(new ThirdLetter(), line), ThirdLetter.NONE);
            int last = line.lastIndexOf(' ');
            String less = last < 0 ? "fre" : line.substring(0, last);
            checks.due("fault() of '" + less + "'", Checks.faultOf(new ThirdLetter(), less), last < 0 ? 0 : last);
            lines++;
        }
        checks.due("lines", lines, LINES);
    }

    private static void callsAreTheFace(String calls) {
        checks.about("the calls are the face");
        Set<String> told = new TreeSet<>();
        for (MatchResult m : CALL.matcher(calls).results().toList()) told.add(typesAlone(m.group(1)));
        Set<String> face = new TreeSet<>();
        for (Method m : ThirdLetter.class.getDeclaredMethods()) {
            if (!Modifier.isPublic(m.getModifiers())) continue;
            String types = String.join(", ", Arrays.stream(m.getParameterTypes()).map(Class::getName).toList());
            face.add(m.getName() + "(" + types + ")");
        }
        checks.due("calls", told.size(), CALLS);
        checks.holds("told are " + told + ", there are " + face, told.equals(face));
    }

    private static String typesAlone(String call) {
        return call.replaceAll("(int|long) \\w+", "$1");
    }

    private static void callsAreTheDocuments(String calls, String document) {
        checks.about("the calls are the document's");
        int promises = 0;
        for (MatchResult promise : PROMISE.matcher(document).results().toList()) {
            String row = calls.lines().filter(line -> line.startsWith("| `" + promise.group(2) + "` |")).findFirst()
                .orElse("");
            Matcher m = CALL.matcher(row);
            checks.holds(promise.group(2) + " has a row", m.matches());
            if (!m.matches()) continue;
            Set<String> told = refusals(m.group(2));
            Set<String> due = refusals(promise.group(3));
            checks.holds("refusals of " + promise.group(1) + " are " + told + ", due are " + due, told.equals(due));
            promises++;
        }
        checks.due("promises", promises, CALLS);
    }

    private static Set<String> refusals(String text) {
        return REFUSAL.matcher(text).results().map(MatchResult::group).collect(Collectors.toCollection(TreeSet::new));
    }

    private static void testsAreThere(String tests) throws IOException {
        checks.about("the tests");
        Set<String> told = TEST.matcher(tests).results().map(m -> m.group(1))
            .collect(Collectors.toCollection(TreeSet::new));
        try (Stream<Path> files = Files.list(TESTS)) {
            Set<String> there = files.map(file -> file.getFileName().toString()).filter(n -> n.endsWith("Tests.java"))
                .map(n -> n.replace(".java", "")).collect(Collectors.toCollection(TreeSet::new));
            checks.holds("told are " + told + ", there are " + there, told.equals(there));
        }
    }
}
