import java.io.IOException;
import java.nio.file.Files;
import java.nio.file.Path;
import java.util.ArrayList;
import java.util.LinkedHashMap;
import java.util.List;
import java.util.Map;

/**
 * The sentences of DOC.md. A test names its sentence by its words, so that the one leads to the other; a sentence
 * without a test, a test without a sentence and a test without an answer are faults.
 */
final class Sentences {
    private static final Path DOCUMENT = Path.of("../shared/DOC.md");
    private static final String END_OF_SENTENCE = "(?<=[.:]) (?=[A-Z])|(?<=;) ";
    private static final String FACE = "`[^`]*`:";

    private final Check check;
    private final Map<String, List<String>> untested = new LinkedHashMap<>();
    private List<String> current = new ArrayList<>();
    private String heading = "";

    Sentences(Check check) throws IOException {
        this.check = check;
        for (String line : Files.readAllLines(DOCUMENT)) {
            if (line.startsWith("## ")) {
                current = new ArrayList<>();
                untested.put(line.substring(3), current);
            } else {
                addSentences(line);
            }
        }
        // FaceTest is for the one, and of what is not promised there is nothing to test.
        untested.remove("The public face");
        untested.remove("Not promised");
    }

    private void addSentences(String line) {
        for (String sentence : line.split(END_OF_SENTENCE)) {
            boolean isTitle = sentence.startsWith("# ") || sentence.matches(FACE);
            if (!sentence.isBlank() && !isTitle) {
                current.add(sentence);
            }
        }
    }

    void in(String section) {
        heading = section;
        current = untested.getOrDefault(section, List.of());
    }

    /** The test of a sentence. */
    void says(String sentence, Runnable test) {
        check.about(heading + " says '" + sentence + "'");
        take(sentence);
        int before = check.answers();
        test.run();
        check.same("the test has answers", check.answers() > before, true);
        check.about("");
    }

    /** Sentences that name no boundary case, or only one that another sentence tells in full. */
    void plain(String... sentences) {
        check.about(heading);
        for (String sentence : sentences) {
            take(sentence);
        }
        check.about("");
    }

    private void take(String sentence) {
        boolean found = current.contains(sentence);
        check.same("'" + sentence + "' is a sentence that no other test has", found, true);
        if (found) {
            current.remove(sentence);
        }
    }

    void finish() {
        for (Map.Entry<String, List<String>> section : untested.entrySet()) {
            check.about(section.getKey());
            check.same("the sentences without a test", section.getValue().toString(), "[]");
        }
        check.about("");
    }
}
