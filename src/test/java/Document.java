import java.io.IOException;
import java.nio.file.Files;
import java.nio.file.Path;
import java.util.ArrayList;
import java.util.Comparator;
import java.util.List;
import java.util.regex.Matcher;
import java.util.regex.Pattern;

/** The document's text, to see that the sentences beside the tests are its own, and that none is left out. */
final class Document {
    private static final Path PLACE = Path.of("../shared/DOC.md");
    private static final int PROMISES = 21;

    /** What stands ahead of the promises and names no boundary case; FaceTest looks at the public face. */
    private static final String[] OTHER_WORDS = {
        "(?s)^.*?why there is none; .*?the one that goes in its place\\. ========", "(?s)## The public face.*?(?=## )",
        "## \\w+", "======== [23]?", "Ahead of the calls [^:]*: ---- [a-z, ]*\\."
    };

    private final List<String> sections = new ArrayList<>();

    private Document(String text) {
        String[] parts = text.split("## Not promised")[0].split("## Promise \\d+: [A-Za-z ]+\n");
        for (String part : parts) {
            sections.add(folded(part.replace("```text", " ").replace("```\n", " ")));
        }
    }

    static void compare(Checks checks, List<Checks.Sentence> sentences) throws IOException {
        if (!Files.isReadable(PLACE)) {
            System.out.println("sentences are not compared: there is no " + PLACE);
            return;
        }
        Document document = new Document(Files.readString(PLACE));
        checks.due("promises of the document", document.sections.size() - 1, PROMISES);
        List<Checks.Sentence> longestFirst = new ArrayList<>(sentences);
        longestFirst.sort(Comparator.comparingInt(s -> -s.words().length()));
        for (Checks.Sentence sentence : longestFirst) {
            checks.holds("promise " + sentence.promise() + " says: " + sentence.words(), document.takes(sentence));
        }
        for (int promise = 0; promise < document.sections.size(); promise++) {
            String left = document.leftOf(promise);
            checks.holds("promise " + promise + " has no test beside: " + left, left.isEmpty());
        }
    }

    private boolean takes(Checks.Sentence sentence) {
        if (sentence.promise() >= sections.size()) {
            return false;
        }
        String section = sections.get(sentence.promise());
        int from = section.indexOf(sentence.words());
        if (from < 0) {
            return false;
        }
        String without = section.substring(0, from) + " " + section.substring(from + sentence.words().length());
        sections.set(sentence.promise(), without);
        return true;
    }

    private String leftOf(int promise) {
        String left = sections.get(promise);
        if (promise > 0) {
            left = left.replaceFirst("^ ?`[^`]*`:", "");
        } else {
            for (String words : OTHER_WORDS) {
                Matcher matcher = Pattern.compile(words).matcher(left);
                left = matcher.replaceAll(" ");
            }
        }
        return folded(left).trim();
    }

    private static String folded(String text) {
        return text.replaceAll("\\s+", " ");
    }
}
