import java.io.IOException;
import java.nio.file.Files;
import java.nio.file.Path;
import java.util.Arrays;
import java.util.List;

/** The document's words, and which of them tests have quoted. */
final class Document {
    static final int PROMISES = 38;

    private static final class Section {
        final String text;
        final boolean[] quoted;

        Section(String text) {
            this.text = plain(text);
            quoted = new boolean[this.text.length()];
        }

        boolean quote(String words) {
            boolean found = false;
            for (int at = text.indexOf(words); at >= 0; at = text.indexOf(words, at + 1)) {
                Arrays.fill(quoted, at, at + words.length(), true);
                found = true;
            }
            return found;
        }

        String left() {
            StringBuilder left = new StringBuilder();
            for (int i = 0; i < quoted.length; i++) {
                boolean says = !quoted[i] && Character.isLetterOrDigit(text.charAt(i));
                left.append(says ? text.charAt(i) : ' ');
            }
            return plain(left.toString());
        }
    }

    private final Section terms;
    private final Section[] promises = new Section[PROMISES + 1];

    Document() throws IOException {
        List<String> lines = Files.readAllLines(Path.of("../shared/DOC.md"));
        String limit = lines.stream().filter(line -> line.startsWith("An object is used for")).findFirst().orElse("");
        terms = new Section(limit + " " + below(lines, "## Terms"));
        for (int promise = 1; promise <= PROMISES; promise++) {
            String text = below(lines, "## Promise " + promise + ":");
            promises[promise] = new Section(text.substring(text.indexOf("`:") + 2));
        }
    }

    private static String plain(String text) {
        return text.replaceAll("==== [0-9]+\\.", " ").replaceAll("```[a-z]*", " ").replaceAll("\\s+", " ").trim();
    }

    private static String below(List<String> lines, String heading) {
        StringBuilder text = new StringBuilder();
        boolean inside = false;
        for (String line : lines) {
            if (line.startsWith("## ")) {
                inside = line.startsWith(heading);
            } else if (inside) {
                text.append(line).append('\n');
            }
        }
        return text.toString();
    }

    /** True if the words stand in the promise's own section or among the terms. */
    boolean quote(int promise, String words) {
        boolean own = promises[promise].quote(words);
        return terms.quote(words) || own;
    }

    /** What no test has quoted yet, empty if all is. */
    String left() {
        StringBuilder left = new StringBuilder(terms.left());
        for (int promise = 1; promise <= PROMISES; promise++) {
            if (!promises[promise].left().isEmpty()) {
                left.append(" promise ").append(promise).append(": ").append(promises[promise].left());
            }
        }
        return left.toString().trim();
    }
}
