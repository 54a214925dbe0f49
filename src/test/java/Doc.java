import java.io.IOException;
import java.nio.file.Files;
import java.nio.file.Path;
import java.util.ArrayList;
import java.util.LinkedHashMap;
import java.util.List;
import java.util.Map;
import java.util.regex.Matcher;
import java.util.regex.Pattern;

/** The document's own words: a test of an edge names the sentence to which it holds the class, and none is forgotten. */
final class Doc {
    private static final Path FILE = Path.of("../shared/DOC.md");
    private static final Map<String, String> SECTIONS = read();
    private static final Map<String, List<String>> QUOTES = new LinkedHashMap<>();

    private Doc() {
    }

    /** What follows tests this sentence, or a piece of one, of "Part V", "CORNERS" or "Promise 17". */
    static void says(String where, String quote) {
        Probe.about(where + " \"" + quote + "\"");
        if (!SECTIONS.isEmpty()) {
            Probe.is("it stands there", SECTIONS.getOrDefault(where, "").contains(quote) ? 1 : 0, 1);
        }
        QUOTES.computeIfAbsent(where, x -> new ArrayList<>()).add(quote);
    }

    /** Every sentence of the terms and of the promises is named by a test. */
    static void allAreNamed() {
        Probe.about("all sentences are named");
        if (SECTIONS.isEmpty()) {
            System.out.println("there is no " + FILE + ": what is quoted is not compared with it");
            return;
        }
        Probe.is("parts, corners and promises", SECTIONS.size(), 10 + 1 + 35);
        SECTIONS.forEach((where, text) -> {
            for (String sentence : text.split("(?<=[^.\\s]\\.)\\s+")) {
                Probe.is(where + ": " + sentence, isNamed(where, sentence) ? 1 : 0, 1);
            }
        });
    }

    private static boolean isNamed(String where, String sentence) {
        return QUOTES.getOrDefault(where, List.of()).stream().anyMatch(quote -> sentence.contains(quote) || quote.contains(sentence));
    }

    private static Map<String, String> read() {
        Map<String, String> sections = new LinkedHashMap<>();
        String text;
        try {
            text = Files.readString(FILE).replace("```text", "").replace("```", "");
        } catch (IOException e) {
            // the tests of the class must not fail for want of the document
            return sections;
        }
        String terms = text.substring(text.indexOf("## Terms"), text.indexOf("The constants:"));
        collect(sections, terms, "(Part [IVX]+|CORNERS)\\. (?:[A-Z ]+\\. )?(.*?)(?=\nPart [IVX]+\\. |\n *CORNERS|$)");
        collect(sections, text.substring(0, text.indexOf("## Not promised")), "## (Promise \\d+): \\w[^\n]*\n+`[^`]*`: (.*?)(?=\n## |$)");
        return sections;
    }

    private static void collect(Map<String, String> sections, String text, String form) {
        Matcher matcher = Pattern.compile(form, Pattern.DOTALL).matcher(text);
        while (matcher.find()) {
            sections.put(matcher.group(1), matcher.group(2).replaceAll("\\s+", " ").strip());
        }
    }
}
