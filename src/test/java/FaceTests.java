import java.io.IOException;
import java.lang.reflect.Constructor;
import java.lang.reflect.Field;
import java.lang.reflect.Member;
import java.lang.reflect.Method;
import java.lang.reflect.Modifier;
import java.nio.file.Files;
import java.nio.file.Path;
import java.util.Arrays;
import java.util.List;
import java.util.Set;
import java.util.TreeSet;
import java.util.regex.Matcher;
import java.util.regex.Pattern;

/** The document's face and what of LANGUAGE.md can be seen by looking at the class and at its source. */
public final class FaceTests {
    private static final Path SOURCE = Path.of("src/main/java/ThirdLetter.java");
    private static final Set<String> FACE = Set.of("write(long,int)", "erase()", "fault()", "order()", "word(int,int)",
        "voice(int,int)", "preach(int)", "amen()", "say(int)", "heard(int)", "tally(int)", "sound(int)", "listen()",
        "hush()", "fits(int,int)", "readings(int)", "came(int)", "alone(int,int)", "twins(int,int)",
        "learnt(int,int,int)", "seats(int)", "bears(int)", "keep(int)", "back(int)", "count(int)");
    private static final List<String> FORBIDDEN = List.of("throw", "throws", "try", "catch", "finally", "synchronized",
        "assert", "import", "package", "double", "float", "Exception", "Error", "Thread", "Random",
        "System.currentTimeMillis", "System.nanoTime", "->", "::",
        "protected", "volatile", "native", "hashCode", "toString");

    private static final Checks checks = new Checks("face");

    private FaceTests() {
    }

    public static void main(String[] args) throws IOException {
        constants();
        members();
        nestedClasses();
        String code = withoutComments(Files.readString(SOURCE));
        forbiddenWords(code);
        checks.end();
    }

    private static void constants() {
        checks.about("constants");
        checks.due("NONE", ThirdLetter.NONE, -1);
        checks.due("UNKNOWN", ThirdLetter.UNKNOWN, -2);
        checks.due("OUTSIDE", ThirdLetter.OUTSIDE, -3);
        checks.due("NOT", ThirdLetter.NOT, -4);
        checks.due("FULL", ThirdLetter.FULL, -5);
    }

    private static void members() {
        checks.about("members");
        Set<String> methods = new TreeSet<>();
        for (Method m : ThirdLetter.class.getDeclaredMethods()) {
            if (m.isSynthetic()) continue;
            String types = String.join(",", Arrays.stream(m.getParameterTypes()).map(Class::getName).toList());
            if (!Modifier.isPrivate(m.getModifiers())) methods.add(m.getName() + "(" + types + ")");
            else checks.holds("private " + m.getName() + " bears no public name", !isPublicName(m.getName()));
            boolean facePart = Modifier.isPublic(m.getModifiers()) && m.getReturnType() == int.class;
            checks.holds(m.getName() + " is private or answers int", Modifier.isPrivate(m.getModifiers()) || facePart);
        }
        checks.holds("methods are " + methods, methods.equals(new TreeSet<>(FACE)));
        Set<String> fields = new TreeSet<>();
        for (Field f : ThirdLetter.class.getDeclaredFields()) {
            if (!isPrivate(f)) fields.add(f.getName());
            checks.holds(f.getName() + " is final if static", !Modifier.isStatic(f.getModifiers()) || isFinal(f));
        }
        checks.holds("fields are " + fields, fields.equals(Set.of("NONE", "UNKNOWN", "OUTSIDE", "NOT", "FULL")));
        Constructor<?>[] made = ThirdLetter.class.getDeclaredConstructors();
        checks.due("constructors", made.length, 1);
        checks.due("its parameters", made[0].getParameterCount(), 0);
        checks.holds("it is public", Modifier.isPublic(made[0].getModifiers()));
        checks.holds("the class is final", Modifier.isFinal(ThirdLetter.class.getModifiers()));
    }

    private static boolean isPublicName(String name) {
        return FACE.stream().anyMatch(f -> f.startsWith(name + "("));
    }

    private static boolean isPrivate(Member m) {
        return Modifier.isPrivate(m.getModifiers());
    }

    private static boolean isFinal(Member m) {
        return Modifier.isFinal(m.getModifiers());
    }

    private static void nestedClasses() {
        checks.about("classes inside");
        for (Class<?> c : ThirdLetter.class.getDeclaredClasses()) {
            checks.holds(c.getSimpleName() + " is static", Modifier.isStatic(c.getModifiers()));
            checks.holds(c.getSimpleName() + " is not public", !Modifier.isPublic(c.getModifiers()));
            for (Method m : c.getDeclaredMethods()) {
                checks.holds(m.getName() + " bears no public name", !isPublicName(m.getName()));
            }
            for (Field f : c.getDeclaredFields()) {
                checks.holds(f.getName() + " is final if static", !Modifier.isStatic(f.getModifiers()) || isFinal(f));
            }
        }
    }

    private static String withoutComments(String source) {
        return source.replaceAll("(?s)/\\*.*?\\*/", "").replaceAll("//[^\n]*", "");
    }

    private static void forbiddenWords(String code) {
        checks.about("source");
        for (String word : FORBIDDEN) {
            boolean name = Character.isLetter(word.charAt(0));
            Matcher m = Pattern.compile(name ? "\\b" + Pattern.quote(word) + "\\b" : Pattern.quote(word)).matcher(code);
            checks.holds("no '" + word + "'", !m.find());
        }
        for (String line : code.split("\n")) checks.holds("120 signs at most: " + line, line.length() <= 120);
        checks.holds("signs 10, 32 to 126 alone", code.matches("[\\n -~]*"));
    }
}
