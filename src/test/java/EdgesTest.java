import java.io.IOException;
import java.nio.charset.StandardCharsets;
import java.nio.file.Files;
import java.nio.file.Path;
import java.util.LinkedHashMap;
import java.util.Map;
import java.util.regex.Matcher;
import java.util.regex.Pattern;

/**
 * Each sentence of the document that names a boundary case, with a test of its own that quotes it; and that
 * the quotes are the document's words, and leave nothing of its terms and promises without a test.
 */
public final class EdgesTest {
    private static final Path DOCUMENT = Path.of("../shared/DOC.md");

    public static void main(String[] args) throws IOException {
        EdgesOfThings.run();
        EdgesOfDecks.run();
        EdgesOfTurns.run();
        EdgesOfRecalls.run();
        EdgesOfEnds.run();
        EdgesOfAudit.run();
        if (Files.isReadable(DOCUMENT)) {
            quotesAreTheDocuments(Files.readString(DOCUMENT, StandardCharsets.UTF_8));
        } else {
            System.out.println("EdgesTest: no document at " + DOCUMENT + ", its words are not compared");
        }
        System.out.println("EdgesTest: " + Edges.QUOTES.size() + " sentences, " + Edges.checks + " answers, "
                + Edges.refusals + " refused calls; " + (Edges.wrong == 0 ? "all as due" : Edges.wrong + " wrong"));
        if (Edges.wrong != 0) {
            System.exit(1);
        }
    }

    private static void quotesAreTheDocuments(String document) {
        Map<String, StringBuilder> parts = parts(document);
        for (Map.Entry<String, StringBuilder> part : parts.entrySet()) {
            String words = part.getValue().toString();
            boolean[] tested = new boolean[words.length()];
            for (Edges.Quote quote : Edges.QUOTES) {
                if (quote.where.equals(part.getKey())) {
                    mark(words, quote, tested);
                }
            }
            tellWhatIsUntested(part.getKey(), words, tested);
        }
        for (Edges.Quote quote : Edges.QUOTES) {
            if (!parts.containsKey(quote.where)) {
                Edges.fault("the document has no part " + quote.where);
            }
        }
    }

    /** The words of each part, in single spaces: "Terms 1" to "Terms 3", "Promise 1" to the last, and the others. */
    private static Map<String, StringBuilder> parts(String document) {
        Map<String, StringBuilder> parts = new LinkedHashMap<>();
        String name = "";
        boolean face = false;
        for (String line : document.split("\n")) {
            Matcher term = Pattern.compile("==== ([0-9]+)\\. (.*)").matcher(line);
            Matcher promise = Pattern.compile("## (Promise [0-9]+): .*").matcher(line);
            String words = line;
            if (term.matches()) {
                name = "Terms " + term.group(1);
                words = term.group(2);
            } else if (promise.matches()) {
                name = promise.group(1);
                words = "";
            } else if (line.startsWith("#")) {
                name = line.replaceFirst("#+ *", "");
                words = "";
            } else if (line.startsWith("The constants: ")) {
                name = "The constants";
                words = line.substring("The constants: ".length());
            } else if (line.startsWith("```")) {
                words = "";
            } else if (name.startsWith("Promise")) {
                words = line.replaceFirst("^`[^`]*`: ", "");
            }
            parts.computeIfAbsent(name, n -> new StringBuilder()).append(words.strip()).append(' ');
        }
        parts.replaceAll((n, words) -> new StringBuilder(words.toString().replaceAll("\\s+", " ")));
        return parts;
    }

    private static void mark(String words, Edges.Quote quote, boolean[] tested) {
        int from = words.indexOf(quote.words);
        if (from < 0) {
            Edges.fault(quote.where + " does not say \"" + quote.words + "\"");
        }
        for (int i = Math.max(from, 0); i < from + quote.words.length() && from >= 0; i++) {
            tested[i] = true;
        }
    }

    private static void tellWhatIsUntested(String part, String words, boolean[] tested) {
        if (!part.startsWith("Terms") && !part.startsWith("Promise") && !part.equals("The constants")) {
            return;
        }
        StringBuilder left = new StringBuilder();
        for (int i = 0; i < words.length(); i++) {
            left.append(tested[i] ? ' ' : words.charAt(i));
        }
        String untested = left.toString().replaceAll("\\s+", " ").strip();
        if (!untested.isEmpty()) {
            Edges.fault("no test quotes this of " + part + ": " + untested);
        }
    }
}
