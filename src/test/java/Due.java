import java.io.IOException;
import java.nio.file.Files;
import java.nio.file.Path;

/** Counts answers that are not as due, told with the promise or the sentence that they break. */
final class Due {
    private static final String DOCUMENT = document();

    private int wrong = 0;
    private String ground = "";

    void promise(int number) {
        ground = "promise " + number;
    }

    /** The document's sentence that comes to be tested: it has to stand there, word by word. */
    void sentence(String words) {
        ground = "\"" + words + "\"";
        is("the document has these words", DOCUMENT.isEmpty() || DOCUMENT.contains(squeezed(words)));
    }

    void is(String call, int got, int want) {
        if (got != want) {
            wrong++;
            System.out.println(ground + ": " + call + " answered " + got + ", due is " + want);
        }
    }

    void is(String what, boolean stands) {
        is(what, stands ? 1 : 0, 1);
    }

    void end() {
        if (wrong != 0) {
            System.out.println(wrong + " answers are not as due");
            System.exit(1);
        }
    }

    /** Empty where the document can't be read: the answers are due all the same. */
    private static String document() {
        try {
            return squeezed(Files.readString(Path.of("../shared/DOC.md")));
        } catch (IOException e) {
            System.out.println("../shared/DOC.md can't be read: words are not held against it");
            return "";
        }
    }

    private static String squeezed(String words) {
        return words.replaceAll("\\s+", " ");
    }
}
