import java.io.IOException;
import java.nio.file.Files;
import java.nio.file.Path;
import java.util.ArrayList;
import java.util.List;
import java.util.regex.Matcher;
import java.util.regex.Pattern;

/** The sentences of ../shared/DOC.md, each with the number of its promise, 0 ahead of the promises. */
final class Document {
    /** Of "Not promised" nothing can be tested. */
    private static final String LAST_TITLE = "## Not promised";
    private static final Pattern PROMISE = Pattern.compile("## Promise (\\d+):.*");

    private final List<Integer> promises = new ArrayList<>();
    private final List<String> sentences = new ArrayList<>();
    private final List<Boolean> quoted = new ArrayList<>();

    Document(Path file) throws IOException {
        int promise = 0;
        boolean code = false;
        StringBuilder paragraph = new StringBuilder();
        for (String line : Files.readAllLines(file)) {
            boolean title = line.startsWith("#");
            if (line.startsWith("```")) {
                code = !code;
            } else if (!code && (title || line.isBlank() || line.startsWith("- "))) {
                end(promise, paragraph);
                Matcher m = PROMISE.matcher(line);
                promise = m.matches() ? Integer.parseInt(m.group(1)) : promise;
                paragraph.append(line.startsWith("- ") ? line.substring(2) : "");
            } else if (!code) {
                paragraph.append(' ').append(line);
            }
            if (line.equals(LAST_TITLE)) {
                return;
            }
        }
        end(promise, paragraph);
    }

    private void end(int promise, StringBuilder paragraph) {
        for (String sentence : plain(paragraph.toString()).split("(?<=\\.) (?=[A-Z0-9])")) {
            if (!sentence.isEmpty()) {
                promises.add(promise);
                sentences.add(sentence);
                quoted.add(false);
            }
        }
        paragraph.setLength(0);
    }

    private static String plain(String text) {
        return text.strip().replaceAll("\\s+", " ");
    }

    /** Marks the sentence that has these words, or that stands in them; false if there is none. */
    boolean quote(int promise, String words) {
        boolean found = false;
        for (int k = 0; k < sentences.size(); k++) {
            if (promises.get(k) == promise && sentences.get(k).contains(words)) {
                quoted.set(k, true);
                found = true;
            }
        }
        return found;
    }

    List<String> notQuoted() {
        List<String> rest = new ArrayList<>();
        for (int k = 0; k < sentences.size(); k++) {
            if (!quoted.get(k)) {
                rest.add("promise " + promises.get(k) + ": " + sentences.get(k));
            }
        }
        return rest;
    }
}
