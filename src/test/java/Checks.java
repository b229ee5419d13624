import java.io.IOException;
import java.nio.file.Files;
import java.nio.file.Path;

/** Counts and prints the answers that are not as due, with the words of the document that ask for them. */
final class Checks {
    private static final int PRINTED = 40;

    private final String document = document();
    private String words = "";
    private int wrong;
    private int asked;
    private int askedOfWords;
    private int sentences;

    /** What is asked from here on tests these words, which must stand in the document. */
    void words(String quoted) {
        endOfWords();
        words = quoted;
        sentences++;
        if (!document.contains(quoted)) {
            wrong++;
            System.out.println("not in the document: " + quoted);
        }
    }

    // Words that nothing is asked of would look tested and not be.
    private void endOfWords() {
        if (!words.isEmpty() && askedOfWords == 0) {
            wrong++;
            System.out.println("nothing asked: " + words);
        }
        askedOfWords = 0;
    }

    void due(String what, long got, long want) {
        due(what, Long.toString(got), Long.toString(want));
    }

    void due(String what, boolean got, boolean want) {
        due(what, got ? 1 : 0, want ? 1 : 0);
    }

    void due(String what, String got, String want) {
        asked++;
        askedOfWords++;
        if (!got.equals(want)) {
            wrong++;
            if (wrong > PRINTED) {
                return;
            }
            System.out.println((words.isEmpty() ? "" : "[" + words + "] ")
                + what + " answered " + got + ", due is " + want);
        }
    }

    void end() {
        endOfWords();
        System.out.println(asked + " answers to " + sentences + " sentences, " + wrong + " not as due");
        if (wrong != 0 || asked == 0) {
            System.exit(1);
        }
    }

    private static String document() {
        try {
            return Files.readString(Path.of("../shared/DOC.md")).replaceAll("\\s+", " ");
        } catch (IOException e) {
            throw new IllegalStateException("the tests run where ../shared/DOC.md is", e);
        }
    }
}
