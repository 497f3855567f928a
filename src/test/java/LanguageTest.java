import java.lang.reflect.Field;
import java.lang.reflect.Method;
import java.lang.reflect.Modifier;
import java.nio.file.Files;
import java.nio.file.Path;
import java.util.ArrayList;
import java.util.HashSet;
import java.util.List;
import java.util.Set;
import java.util.regex.Matcher;
import java.util.regex.Pattern;

/** Rules of ../shared/LANGUAGE.md that can be seen from the words and from the classes. */
public final class LanguageTest {
    private static final String[] BANNED = {
        "\\bthrows?\\b", "\\btry\\b", "\\bcatch\\b", "\\bsynchronized\\b", "\\bassert\\b",
        "\\bimport\\b", "\\bpackage\\b", "\\bprotected\\b", "->", "::", "\\bstatic\\s*\\{",
        "\\bequals\\s*\\(", "\\bhashCode\\b", "\\btoString\\b", "Exact\\b", "\\bThread\\b",
        "\\bSystem\\.(?!arraycopy)", "\\brandom\\b", "\\bvolatile\\b", "\\btransient\\b"
    };

    public static void main(String[] args) throws Exception {
        String program = Files.readString(Path.of("src/main/java/BoxedProofs.java"));
        String code = program.replaceAll("(?s)/\\*.*?\\*/", " ").replaceAll("//[^\n]*", " ");
        for (String banned : BANNED) {
            Matcher found = Pattern.compile(banned).matcher(code);
            Due.isTrue("without " + banned, !found.find());
        }
        for (int i = 0; i < program.length(); i++) {
            if (program.charAt(i) > 126) {
                Due.is("sign at " + i, program.charAt(i), 126);
            }
        }
        arraysAreMadeInConstructors(code);
        methodsAreShort(code);
        List<Class<?>> classes = new ArrayList<>(List.of(BoxedProofs.class.getDeclaredClasses()));
        classes.add(BoxedProofs.class);
        Due.isTrue("rule 11: at most 12 classes", classes.size() <= 12);
        for (Class<?> type : classes) {
            fields(type);
            methods(type);
        }
        Due.end("LanguageTest");
    }

    /** Those of a row and of the ring of recorded states: so no call makes an array. */
    private static void arraysAreMadeInConstructors(String code) {
        Matcher made = Pattern.compile("new \\w+\\[").matcher(code);
        int arrays = 0;
        while (made.find()) {
            arrays++;
        }
        Due.is("places that make arrays", arrays, 2);
    }

    private static void methodsAreShort(String code) {
        Matcher method = Pattern.compile("(?m)^( {4}| {8})\\S[^;=]*\\) \\{\\n(?s:.*?)^\\1\\}")
                .matcher(code);
        int methods = 0;
        while (method.find()) {
            methods++;
            Due.isTrue("rule 11: at most 60 lines: " + method.group().lines().findFirst(),
                    method.group().lines().count() <= 60);
        }
        Due.isTrue("methods are found", methods > 38);
    }

    private static void fields(Class<?> type) {
        int fields = 0;
        for (Field field : type.getDeclaredFields()) {
            Class<?> of = field.getType();
            if (Modifier.isStatic(field.getModifiers())) {
                Due.isTrue("rule 5: " + field, of == int.class || of == long.class
                        || of == boolean.class || of == char.class || of == String.class);
            } else {
                fields++;
                Due.isTrue("rule 3: " + field, of == int.class || of == boolean.class
                        || of == int[].class || of.isArray() && isOwn(of.getComponentType())
                        || isOwn(of));
            }
        }
        Due.isTrue("rule 11: at most 20 fields in " + type, fields <= 20);
    }

    private static boolean isOwn(Class<?> type) {
        return type.getEnclosingClass() == BoxedProofs.class;
    }

    private static void methods(Class<?> type) {
        Set<String> face = new HashSet<>();
        for (Method method : BoxedProofs.class.getMethods()) {
            face.add(method.getName());
        }
        for (Method method : type.getDeclaredMethods()) {
            Due.isTrue("rule 11: at most 7 parameters: " + method,
                    method.getParameterCount() <= 7);
            Due.isTrue("rule 1: a name of its own: " + method,
                    !Modifier.isPrivate(method.getModifiers()) || !face.contains(method.getName()));
        }
    }
}
