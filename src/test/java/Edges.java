import java.io.IOException;
import java.nio.file.Files;
import java.nio.file.Path;
import java.util.LinkedHashMap;
import java.util.Map;
import java.util.function.Consumer;

/**
 * The sentences of the document, each with a test of the boundary cases that it names. A test tells
 * the sentence in the document's own words, so that what no test tells can be found.
 */
final class Edges {
    private static final Path DOCUMENT = Path.of("../shared/DOC.md");

    final Bench bench = new Bench();
    private final Map<String, String> sections = new LinkedHashMap<>();
    private final Map<String, boolean[]> told = new LinkedHashMap<>();

    Edges() throws IOException {
        String text = "\n" + Files.readString(DOCUMENT);
        for (String section : text.split("\n## ")) {
            int titleEnd = section.indexOf('\n');
            if (titleEnd > 0) {
                addSection(section.substring(0, titleEnd).replaceAll(":.*", ""), section.substring(titleEnd));
            }
        }
    }

    /** "Terms" has two parts more, which are told by their signs. */
    private void addSection(String title, String body) {
        int from = 0;
        String name = title;
        for (String sign : new String[] {"==== 2.", "==== 3."}) {
            int next = body.indexOf(sign);
            if (next >= 0) {
                putSection(name, body.substring(from, next));
                name = sign;
                from = next + sign.length();
            }
        }
        putSection(name, body.substring(from));
    }

    private void putSection(String name, String body) {
        String sentences = plain(body.replaceAll("```(text)?\n", "").replaceFirst("^\\s*`[^`]*`:", ""));
        sections.put(name, sentences);
        told.put(name, new boolean[sentences.length()]);
    }

    private static String plain(String text) {
        return text.replaceAll("\\s+", " ").trim();
    }

    /** A sentence (or a part of one) of a section, which stands there once, and its test. */
    void of(String section, String sentence, Consumer<Bench> test) {
        markTold(section, sentence);
        bench.test(section + " \"" + sentence + "\"", test);
    }

    private void markTold(String section, String sentence) {
        String text = sections.getOrDefault(section, "");
        int place = text.indexOf(plain(sentence));
        bench.due(section + " has \"" + sentence + "\" just once",
                place >= 0 && text.indexOf(plain(sentence), place + 1) < 0, true);
        for (int p = place; p >= 0 && p < place + plain(sentence).length(); p++) {
            told.get(section)[p] = true;
        }
    }

    /** Whether each letter and digit of a section is in a sentence that was told. */
    void allIsTold(String section) {
        StringBuilder untold = new StringBuilder();
        String text = sections.getOrDefault(section, "");
        bench.due("there is a section " + section, text.isEmpty(), false);
        for (int p = 0; p < text.length(); p++) {
            if (!told.get(section)[p] && Character.isLetterOrDigit(text.charAt(p))) {
                untold.append(text.charAt(p));
            }
        }
        bench.due(section + ": signs of sentences that no test tells: " + untold, untold.length(), 0);
    }
}
