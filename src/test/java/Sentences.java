import java.io.IOException;
import java.nio.file.Files;
import java.nio.file.Path;
import java.util.ArrayList;
import java.util.Arrays;
import java.util.LinkedHashSet;
import java.util.List;
import java.util.Objects;
import java.util.Set;

/** The sentences of the document, the tests of them in the same order, and what the tests find wrong. */
final class Sentences {
    private static final Path DOCUMENT = Path.of("../shared/DOC.md");
    /** Where a sentence ends; the short headings of paragraphs come out as sentences of one or two words. */
    private static final String END_OF_SENTENCE = "(?<=\\.) (?=[A-Z\"]|lowestHeightByPaths)";
    private static final int MOST_PRINTED = 3;

    private final List<String> told = new ArrayList<>();
    private final Set<String> broken = new LinkedHashSet<>();
    private String heading = "";
    private String current = "";
    private int answers;
    private int wrongOfCurrent;

    void under(String newHeading) {
        heading = newHeading;
    }

    /** Runs the test of a sentence; a text with " .." at its end is the beginning of the sentence. */
    void holds(String sentence, Runnable test) {
        current = heading + ": " + sentence;
        wrongOfCurrent = 0;
        told.add(current);
        try {
            test.run();
        } catch (RuntimeException thrown) {
            wrong("a call that should answer threw " + thrown + " at " + Arrays.toString(thrown.getStackTrace()));
        }
    }

    void same(String what, Object due, Object got) {
        answers++;
        if (!Objects.equals(due, got)) {
            wrong(what + " answered " + got + ", due is " + due);
        }
    }

    private void wrong(String text) {
        broken.add(current);
        wrongOfCurrent++;
        if (wrongOfCurrent <= MOST_PRINTED) {
            System.out.println("[" + current + "] " + text);
        }
    }

    /** Compares the sentences that have a test with those of the document. */
    void compareWithDocument() throws IOException {
        List<String> due = ofDocument(Files.readString(DOCUMENT));
        int both = Math.min(due.size(), told.size());
        for (int at = 0; at < both; at++) {
            current = due.get(at);
            wrongOfCurrent = 0;
            String quoted = told.get(at);
            boolean isPart = quoted.endsWith(" ..");
            String words = isPart ? quoted.substring(0, quoted.length() - 3) : quoted;
            same("the test in this place is that of " + quoted + ", which", true,
                    isPart ? due.get(at).startsWith(words) : due.get(at).equals(words));
        }
        current = "sentences";
        same("the number of sentences with a test", due.size(), told.size());
    }

    private static List<String> ofDocument(String text) {
        Set<String> sentences = new LinkedHashSet<>();
        for (String section : text.split("\n## ")) {
            String title = section.substring(0, section.indexOf('\n'));
            if (title.equals("What it is") || title.equals("Terms") || title.startsWith("Promise ")) {
                for (String paragraph : section.substring(title.length()).split("\n\n|\n(?=- )")) {
                    addSentences(sentences, title, paragraph.replaceAll("\\s+", " ").strip());
                }
            }
        }
        return new ArrayList<>(sentences);
    }

    private static void addSentences(Set<String> sentences, String title, String paragraph) {
        if (paragraph.startsWith("Ahead of the calls")) {
            return;
        }
        String words = title.equals("Terms") ? paragraph : paragraph.replaceFirst("^`[^`]*`: ", "");
        for (String sentence : words.split(END_OF_SENTENCE)) {
            if (!sentence.matches("|\\w+\\.|Further rules\\.")) {
                sentences.add(title.replaceFirst(":.*", "") + ": " + sentence);
            }
        }
    }

    void end() {
        broken.forEach(sentence -> System.out.println("broken: " + sentence));
        System.out.println("SentenceTests: " + told.size() + " sentences, " + answers + " answers, "
                + broken.size() + " sentences broken");
        if (!broken.isEmpty()) {
            System.exit(1);
        }
    }
}
