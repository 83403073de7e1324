import java.io.IOException;
import java.lang.reflect.Method;
import java.lang.reflect.Modifier;
import java.nio.file.Files;
import java.nio.file.Path;
import java.util.ArrayList;
import java.util.List;
import java.util.Set;
import java.util.TreeSet;
import java.util.regex.Matcher;
import java.util.regex.Pattern;
import java.util.stream.Stream;

/** README.md: the calls that it shows are made, one behind the other, and answer as it says. */
public final class ReadmeTest {
    private static final Path PAGE = Path.of("README.md");
    private static final Path TESTS = Path.of("src/test/java");
    private static final Path SCRIPT = Path.of(".ci/run");
    private static final int MOST_CALLS = 512;
    private static final Pattern MADE = Pattern.compile("HandToHand x = new HandToHand\\(\\);");
    private static final Pattern CALL = Pattern.compile("x\\.(\\w+)\\(([^)]*)\\);\\s*// (-?\\d+)([:,].*)");
    private static final Pattern QUOTED = Pattern.compile("\"([^\"]*)\"");

    private static HandToHand x;
    private static int calls;
    private static final Set<String> shown = new TreeSet<>();

    private ReadmeTest() {
    }

    public static void main(String[] args) throws IOException, ReflectiveOperationException {
        List<String> page = Files.readAllLines(PAGE);
        for (String line : javaOf(page)) {
            if (!line.isBlank()) {
                tryLine(line);
            }
        }
        Due.same("every call is shown", shown.toString(), face().toString());
        Due.holds("no object is asked more often than the document says", calls <= MOST_CALLS);
        testsAreNamed(String.join("\n", page));
        Due.end();
    }

    /** The lines between ```java and ```. */
    private static List<String> javaOf(List<String> page) {
        List<String> code = new ArrayList<>();
        boolean within = false;
        for (String line : page) {
            if (line.startsWith("```")) {
                within = line.equals("```java");
            } else if (within) {
                code.add(line);
            }
        }
        return code;
    }

    private static void tryLine(String line) throws ReflectiveOperationException {
        if (MADE.matcher(line).matches()) {
            x = new HandToHand();
            calls = 0;
            return;
        }
        Matcher call = CALL.matcher(line);
        boolean understood = x != null && call.matches();
        Due.holds("a call of an object, and what it answers: " + line, understood);
        if (understood) {
            calls++;
            shown.add(call.group(1));
            Due.same(line, answerTo(call.group(1), call.group(2)), Long.parseLong(call.group(3)));
            if (call.group(1).equals("feed")) {
                bytesAreQuoted(line, Long.decode(call.group(2).replace("L", "")), call.group(4));
            }
        }
    }

    private static long answerTo(String name, String numbers) throws ReflectiveOperationException {
        String[] told = numbers.isBlank() ? new String[0] : numbers.split(",\\s*");
        for (Method m : HandToHand.class.getMethods()) {
            if (m.getName().equals(name) && m.getParameterCount() == told.length) {
                Object[] given = new Object[told.length];
                for (int i = 0; i < told.length; i++) {
                    long v = Long.decode(told[i].replace("L", ""));
                    // Put apart, as a choice between the two would make a long of both.
                    if (m.getParameterTypes()[i] == long.class) {
                        given[i] = v;
                    } else {
                        given[i] = (int) v;
                    }
                }
                return ((Number) m.invoke(x, given)).longValue();
            }
        }
        throw new NoSuchMethodException(name + " with " + told.length + " numbers");
    }

    private static void bytesAreQuoted(String line, long v, String comment) {
        Matcher quoted = QUOTED.matcher(comment);
        StringBuilder bytes = new StringBuilder();
        for (int shift = 56; shift >= 0; shift -= 8) {
            bytes.append((char) (v >> shift & 255));
        }
        Due.same(line, quoted.find() ? quoted.group(1) : "no bytes", bytes.toString());
    }

    private static Set<String> face() {
        Set<String> names = new TreeSet<>();
        for (Method m : HandToHand.class.getDeclaredMethods()) {
            if (Modifier.isPublic(m.getModifiers())) {
                names.add(m.getName());
            }
        }
        return names;
    }

    private static void testsAreNamed(String page) throws IOException {
        Due.holds("how the tests are run", page.contains("```sh\n" + SCRIPT + "\n```") && Files.isExecutable(SCRIPT));
        try (Stream<Path> files = Files.list(TESTS)) {
            for (Path file : (Iterable<Path>) files::iterator) {
                String name = file.getFileName().toString().replace(".java", "");
                Due.holds(name + " is named", page.contains("`" + name + "`"));
            }
        }
    }
}
