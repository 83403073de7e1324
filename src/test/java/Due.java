import java.io.IOException;
import java.nio.file.Files;
import java.nio.file.Path;

/** Counts what was looked at and what is not as due. */
final class Due {
    private static final int SHOWN = 40;
    private static final Path DOCUMENT = Path.of("../shared/DOC.md");
    private static int looked = 0;
    private static int wrong = 0;
    private static String document;
    private static String sentence = "";

    private Due() {
    }

    /** The words of the document that what follows is about; a test whose words stand there no more is out of date. */
    static void about(String words) {
        sentence = "";
        if (!readDocument().isEmpty()) {
            holds("the document says: " + words, document.contains(words));
        }
        sentence = "\"" + words + "\": ";
    }

    private static String readDocument() {
        if (document == null) {
            try {
                document = Files.readString(DOCUMENT).replaceAll("\\s+", " ");
            } catch (IOException e) {
                // The class can be looked at without it.
                document = "";
                System.out.println("there is no " + DOCUMENT + ": the words that tests quote are not looked up");
            }
        }
        return document;
    }

    static void same(String what, long got, long want) {
        look(what, got == want, Long.toString(got), Long.toString(want));
    }

    static void same(String what, String got, String want) {
        look(what, got.equals(want), got, want);
    }

    static void holds(String what, boolean does) {
        same(what, does ? 1 : 0, 1);
    }

    private static void look(String what, boolean right, String got, String want) {
        looked++;
        if (!right) {
            wrong++;
            if (wrong <= SHOWN) {
                System.out.println(sentence + what + " answered " + got + ", due is " + want);
            }
        }
    }

    static void end() {
        System.out.println(looked + " looked at, " + wrong + " not as due");
        if (wrong != 0 || looked == 0) {
            System.exit(1);
        }
    }
}
