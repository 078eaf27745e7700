import java.io.IOException;
import java.io.UncheckedIOException;
import java.nio.file.Files;
import java.nio.file.Path;
import java.util.ArrayList;
import java.util.List;
import java.util.Map;
import java.util.TreeMap;

/**
 * DOC.md as the tests by sentence quote it: a quote has to stand in its promise, in the terms or in what is
 * said first, and at the end every word of all three has to stand in a quote.
 */
final class Document {
    private static final Path PLACE = Path.of("../shared/DOC.md");
    private static final int PROMISES = 42;
    private static final String TERMS = "Terms";
    private static final String ABOUT = "What it is";

    /** By heading: the text, and which of its signs a quote has. */
    private final Map<String, String> texts = new TreeMap<>();
    private final Map<String, boolean[]> quoted = new TreeMap<>();
    private final int[] tests = new int[PROMISES + 1];

    Document() {
        String heading = "";
        StringBuilder text = new StringBuilder();
        for (String line : lines()) {
            if (line.startsWith("## ")) {
                keep(heading, text);
                heading = line.substring(3).split(":")[0];
            } else if (!line.startsWith("```")) {
                text.append(line.replaceAll("^==== \\d\\. ", "")).append(' ');
            }
        }
        keep(heading, text);
    }

    private static List<String> lines() {
        try {
            return Files.readAllLines(PLACE);
        } catch (IOException e) {
            throw new UncheckedIOException(e);
        }
    }

    private void keep(String heading, StringBuilder text) {
        if (heading.equals(TERMS) || heading.equals(ABOUT) || heading.startsWith("Promise ")) {
            String plain = text.toString().replaceAll("\\s+", " ").trim();
            texts.put(heading, plain);
            quoted.put(heading, new boolean[plain.length()]);
        }
        text.setLength(0);
    }

    /** Marks the words that a test of a promise quotes. */
    void quote(int promise, String words) {
        tests[promise]++;
        boolean there = mark("Promise " + promise, words) | mark(TERMS, words) | mark(ABOUT, words);
        Check.due("the document has the quoted words", there, true);
    }

    private boolean mark(String heading, String words) {
        String text = texts.get(heading);
        int at = text.indexOf(words);
        boolean there = at >= 0;
        while (at >= 0) {
            for (int i = at; i < at + words.length(); i++) {
                quoted.get(heading)[i] = true;
            }
            at = text.indexOf(words, at + 1);
        }
        return there;
    }

    /** Every promise has a test, and no word of what is said first, the terms and the promises is without one. */
    void finish() {
        int all = 0;
        for (int promise = 1; promise <= PROMISES; promise++) {
            Check.due("promise " + promise + " has a test", tests[promise] > 0, true);
            all += tests[promise];
        }
        System.out.println(all + " tests by sentence");
        Check.due("promises in the document", texts.size(), PROMISES + 2);
        for (String heading : texts.keySet()) {
            Check.due(heading + " has words without a test: " + unquoted(heading), unquoted(heading).isEmpty(), true);
        }
    }

    /** The words, with letters or digits, that no test quotes, but for the promise's own signature. */
    private List<String> unquoted(String heading) {
        List<String> words = new ArrayList<>();
        String text = texts.get(heading);
        int from = heading.startsWith("Promise ") ? text.indexOf("`: ") + 2 : 0;
        StringBuilder word = new StringBuilder();
        for (int i = from; i <= text.length(); i++) {
            if (i < text.length() && !quoted.get(heading)[i]) {
                word.append(text.charAt(i));
            } else {
                if (word.toString().matches(".*[A-Za-z0-9].*")) {
                    words.add(word.toString().trim());
                }
                word.setLength(0);
            }
        }
        return words;
    }
}
