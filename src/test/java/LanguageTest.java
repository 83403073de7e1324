import java.io.IOException;
import java.lang.reflect.Constructor;
import java.lang.reflect.Field;
import java.lang.reflect.Method;
import java.lang.reflect.Modifier;
import java.nio.file.Files;
import java.nio.file.Path;
import java.util.ArrayList;
import java.util.Arrays;
import java.util.HashSet;
import java.util.List;
import java.util.Set;
import java.util.TreeSet;
import java.util.regex.Matcher;
import java.util.regex.Pattern;

/** The rules of LANGUAGE.md, as far as a test can see them. */
public final class LanguageTest {
    private static final Path SOURCE = Path.of("src/main/java/HandToHand.java");
    private static final int MOST_LINES = 60, MOST_PARAMETERS = 7, MOST_CLASSES = 12, MOST_FIELDS = 20;
    private static final String FACE = "feed(long):int end(int):int text():int fault():int rule(int):int units(int,int):int "
        + "pace(int,int):int setPace(int,int,int):int begin():int go(int):int night():int now(int):int hand(int,int):int "
        + "learnt(int,int):int takes(int,int):int keep(int):int back(int):int run(int,int):int waits(int,int):int "
        + "over(int,int,int):int judge(int,int,int,int,int):int settles(int):int where(int,int):int makes(int):int "
        + "could(int):long order(int,int):int best(int):int stands(int,int):int parts(int):int less(int,int):int "
        + "sheet(int,int,int):int lay(int,int,int):int read(int,int,int,int,int):int torn():int count(int):int";

    private LanguageTest() {
    }

    public static void main(String[] args) throws IOException {
        face();
        members();
        source(Files.readString(SOURCE));
        Due.end();
    }

    private static void face() {
        Set<String> face = new TreeSet<>();
        for (Method m : HandToHand.class.getDeclaredMethods()) {
            if (!Modifier.isPrivate(m.getModifiers()) && !m.isSynthetic()) {
                List<String> types = new ArrayList<>();
                for (Class<?> type : m.getParameterTypes()) {
                    types.add(type.getName());
                }
                face.add(m.getName() + "(" + String.join(",", types) + "):" + m.getReturnType().getName());
                Due.holds(m.getName() + " is public", Modifier.isPublic(m.getModifiers()) && !Modifier.isStatic(m.getModifiers()));
            }
        }
        Set<String> due = new TreeSet<>(Arrays.asList(FACE.split(" ")));
        Due.same("methods of the face", due.size(), 35);
        Due.holds("the face is " + face, face.equals(due));
        Set<String> constants = new TreeSet<>();
        for (Field f : HandToHand.class.getDeclaredFields()) {
            if (!Modifier.isPrivate(f.getModifiers())) {
                constants.add(f.getName());
                Due.same(f.getName(), f.getModifiers(), Modifier.PUBLIC | Modifier.STATIC | Modifier.FINAL);
            }
        }
        Due.holds("constants are " + constants, constants.equals(new TreeSet<>(List.of("BAD", "STATE", "FULL", "NONE"))));
        Constructor<?>[] made = HandToHand.class.getDeclaredConstructors();
        Due.same("constructors", made.length, 1);
        Due.holds("constructor", Modifier.isPublic(made[0].getModifiers()) && made[0].getParameterCount() == 0);
        Due.same("class", HandToHand.class.getModifiers(), Modifier.PUBLIC | Modifier.FINAL);
    }

    private static void members() {
        List<Class<?>> all = new ArrayList<>(List.of(HandToHand.class.getDeclaredClasses()));
        for (Class<?> c : all) {
            Due.holds(c + " is static", Modifier.isStatic(c.getModifiers()));
            Due.holds(c + " is hidden", !Modifier.isPublic(c.getModifiers()) && !Modifier.isProtected(c.getModifiers()));
        }
        all.add(HandToHand.class);
        Due.holds(all.size() + " classes", all.size() <= MOST_CLASSES);
        Set<String> publics = new HashSet<>();
        for (String method : FACE.split(" ")) {
            publics.add(method.substring(0, method.indexOf('(')));
        }
        for (Class<?> c : all) {
            int fields = 0;
            for (Field f : c.getDeclaredFields()) {
                boolean constant = Modifier.isStatic(f.getModifiers());
                fields += constant ? 0 : 1;
                Due.holds(f + " is final", !constant || Modifier.isFinal(f.getModifiers()));
                Due.holds(f + " is of a type that a constant may have", !constant || f.isSynthetic() || isOfConstants(f.getType()));
            }
            Due.holds(c + " has " + fields + " fields", fields <= MOST_FIELDS);
            for (Method m : c.getDeclaredMethods()) {
                Due.holds(m + " has few parameters", m.getParameterCount() <= MOST_PARAMETERS);
                boolean own = c == HandToHand.class && Modifier.isPublic(m.getModifiers());
                Due.holds(m + " has a name of its own", own || !publics.contains(m.getName()));
            }
        }
    }

    private static boolean isOfConstants(Class<?> type) {
        return List.of(int.class, long.class, boolean.class, char.class, String.class, int[].class, long[].class, char[].class,
            byte[].class).contains(type) || type.isEnum() || type.isArray() && type.getComponentType().isEnum();
    }

    private static void source(String whole) {
        String code = whole.replaceAll("(?s)/\\*.*?\\*/", "").replaceAll("//[^\n]*", "").replaceAll("\"[^\"\n]*\"", "\"\"");
        // What comes from the library, annotations that tell nothing, and the arrows of a switch may stand there.
        code = code.replaceAll("import java\\.util\\.(ArrayList|List|Iterator|Arrays);", "").replace("@Override", "")
            .replaceAll("(\\bcase\\b[^;{}>]*|\\bdefault\\s*)->", "");
        for (String word : new String[] {"throw", "throws", "try", "catch", "finally", "synchronized", "assert", "import", "package",
            "protected", "native", "volatile", "Thread", "Random", "Object", "Exception"}) {
            Due.holds("no " + word, !Pattern.compile("\\b" + word + "\\b").matcher(code).find());
        }
        for (String sign : new String[] {"->", "::", "Exact(", "@", "\"\" +", "+ \"\""}) {
            Due.holds("no " + sign, !code.contains(sign));
        }
        Matcher library = Pattern.compile("\\b(System|Arrays|String|StringBuilder)\\.(\\w+)").matcher(code);
        while (library.find()) {
            Due.holds(library.group(), List.of("System.arraycopy", "Arrays.copyOf", "Arrays.copyOfRange", "Arrays.fill").contains(library.group()));
        }
        Due.holds("signs 1 to 127 alone", whole.chars().allMatch(c -> c > 0 && c < 128));
        lengths(whole.split("\n"));
    }

    private static void lengths(String[] lines) {
        Pattern head = Pattern.compile("^( {4}| {8})(?!.*\\bclass\\b)\\S.*\\) \\{$");
        int methods = 0;
        for (int i = 0; i < lines.length; i++) {
            Matcher m = head.matcher(lines[i]);
            if (m.matches() && !lines[i].trim().startsWith("for") && !lines[i].trim().startsWith("if")) {
                int end = i;
                while (end < lines.length - 1 && !lines[end].equals(m.group(1) + "}")) {
                    end++;
                }
                methods++;
                Due.holds(lines[i].trim() + " is short", end - i + 1 <= MOST_LINES);
            }
        }
        Due.holds(methods + " methods were seen", methods > 35);
    }
}
