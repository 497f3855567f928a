import java.nio.file.Files;
import java.nio.file.Path;
import java.util.regex.Matcher;
import java.util.regex.Pattern;

/** Words and signs that ../shared/LANGUAGE.md keeps out of the program. */
public final class LanguageTest {
    private static final String[] BANNED = {
        "\\bthrows?\\b", "\\btry\\b", "\\bcatch\\b", "\\bsynchronized\\b", "\\bassert\\b",
        "\\bimport\\b", "\\bpackage\\b", "\\bprotected\\b", "->", "::", "\\bstatic\\s*\\{",
        "\\bequals\\s*\\(", "\\bhashCode\\b", "\\btoString\\b", "Exact\\b", "\\bThread\\b",
        "\\bSystem\\.(?!arraycopy)", "\\brandom\\b", "\\bvolatile\\b", "\\btransient\\b"
    };

    public static void main(String[] args) throws Exception {
        String program = Files.readString(Path.of("src/main/java/BoxedProofs.java"));
        String code = program.replaceAll("(?s)/\\*.*?\\*/", " ").replaceAll("//[^\n]*", " ");
        for (String banned : BANNED) {
            Matcher found = Pattern.compile(banned).matcher(code);
            Due.isTrue("without " + banned, !found.find());
        }
        Matcher made = Pattern.compile("new int\\[|new \\w+\\[").matcher(code);
        int arrays = 0;
        while (made.find()) {
            arrays++;
        }
        // Arrays are made in the constructors of a row and of the ring alone.
        Due.is("places that make arrays", arrays, 2);
        for (int i = 0; i < program.length(); i++) {
            if (program.charAt(i) > 126) {
                Due.is("sign at " + i, program.charAt(i), 126);
            }
        }
        Due.end("LanguageTest");
    }
}
