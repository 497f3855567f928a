import java.nio.file.Files;
import java.nio.file.Path;
import java.util.ArrayList;
import java.util.BitSet;
import java.util.List;
import java.util.Map;
import java.util.Set;
import java.util.TreeMap;
import java.util.regex.Matcher;
import java.util.regex.Pattern;
import java.util.stream.Collectors;
import java.util.stream.Stream;

/**
 * Tests quote the sentences that they look at, in remarks such as
 *
 * <pre>// Promise 2: "NO_SUCH if there is no such atom;"</pre>
 *
 * Here the quotes are compared with ../shared/DOC.md: each quote stands there, and no sentence of
 * the promises and of the terms is left that no test quotes.
 */
public final class SentencesTest {
    private static final Path DOCUMENT = Path.of("../shared/DOC.md");
    private static final Path TESTS = Path.of("src/test/java");
    private static final Pattern QUOTE = Pattern.compile(
            "// (Promise \\d+|Terms|What it is): \"(.*?)\"\\n", Pattern.DOTALL);
    private static final Set<String> TITLES = Set.of("Return values.", "Formulas.", "Proofs.",
            "Availability.", "Rules.", "Needs.", "Detours.", "Truth.", "Texts.", "Undo.");

    public static void main(String[] args) throws Exception {
        if (!Files.exists(DOCUMENT)) {
            System.out.println("SentencesTest: " + DOCUMENT + " is not there, nothing to compare");
            return;
        }
        String document = Files.readString(DOCUMENT);
        Map<String, String> sections = sections(document);
        Due.is("the promises and the terms", sections.size(), 40);
        Map<String, List<String>> quotes = quotes();
        quotes.forEach((section, quoted) -> {
            for (String quote : quoted) {
                Due.isTrue(section + " says: " + quote,
                        sections.getOrDefault(section, plain(document)).contains(quote));
            }
        });
        sections.forEach((section, text) ->
                everySentenceIsQuoted(section, text, quotes.getOrDefault(section, List.of())));
        Due.end("SentencesTest");
    }

    private static void everySentenceIsQuoted(String section, String text, List<String> quotes) {
        BitSet quoted = new BitSet();
        for (String quote : quotes) {
            for (int at = text.indexOf(quote); at >= 0; at = text.indexOf(quote, at + 1)) {
                quoted.set(at, at + quote.length());
            }
        }
        Matcher sentence = Pattern.compile("\\S.*?([.;](?=\\s)|(?=\\n)|\\z)").matcher(text);
        while (sentence.find()) {
            boolean isQuoted = true;
            for (int at = sentence.start(); at < sentence.end(); at++) {
                isQuoted &= quoted.get(at) || text.charAt(at) == ' ';
            }
            Due.isTrue("a test quotes " + section + ": " + sentence.group(),
                    isQuoted || TITLES.contains(sentence.group()));
        }
    }

    private static String plain(String text) {
        return text.replace("`", "").replaceAll("\\s+", " ").trim();
    }

    /** The text of each promise, without its method at the head, and of the terms. */
    private static Map<String, String> sections(String document) {
        Map<String, String> sections = new TreeMap<>();
        for (String section : document.split("(?m)^## ")) {
            String heading = section.lines().findFirst().orElse("").replaceAll(":.*", "");
            if (heading.equals("Terms") || heading.startsWith("Promise ")) {
                sections.put(heading, section.lines().skip(1)
                        .filter(line -> !line.startsWith("```"))
                        .filter(line -> !line.matches("Ahead of the calls .* says: ---- [^;]*"))
                        .map(line -> line.replaceFirst("^- |^`.*?\\(.*?\\)`: ", ""))
                        .map(line -> line.replaceFirst("^Ahead of the calls .* says: .*?; ", ""))
                        .map(line -> plain(line)).filter(line -> !line.isEmpty())
                        .collect(Collectors.joining("\n")));
            }
        }
        return sections;
    }

    private static Map<String, List<String>> quotes() throws Exception {
        Map<String, List<String>> quotes = new TreeMap<>();
        List<Path> files;
        try (Stream<Path> found = Files.list(TESTS)) {
            files = found.filter(file -> file.toString().endsWith(".java")).sorted().toList();
        }
        for (Path file : files) {
            Matcher quote = QUOTE.matcher(Files.readString(file));
            while (quote.find()) {
                String text = plain(quote.group(2).replaceAll("\\n\\s*//", " "));
                quotes.computeIfAbsent(quote.group(1), name -> new ArrayList<>()).add(text);
            }
        }
        return quotes;
    }
}
