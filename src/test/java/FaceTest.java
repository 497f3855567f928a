import java.lang.reflect.Constructor;
import java.lang.reflect.Field;
import java.lang.reflect.Member;
import java.lang.reflect.Method;
import java.lang.reflect.Modifier;
import java.nio.file.Files;
import java.nio.file.Path;
import java.util.ArrayList;
import java.util.Arrays;
import java.util.Collections;
import java.util.List;
import java.util.regex.Matcher;
import java.util.regex.Pattern;

/** The public face: the constants, the constructor and the methods, and nothing else. */
public final class FaceTest {
    private static final String[] METHODS = {
        "int atom(int)", "int falsum()", "int not(int)", "int pair(int,int,int)", "int formulas()",
        "int part(int,int)", "int length(int)", "int character(int,int)", "int isTrue(int,int)",
        "int premise(int)", "int open(int)", "int close()", "int repeat(int)",
        "int fromTwo(int,int,int)", "int fromOne(int,int)", "int toFormula(int,int,int)",
        "int fromBox(int,int)", "int cases(int,int,int)", "int lines()", "int line(int,int)",
        "int reference(int,int)", "int boxes()", "int box(int,int)", "int depth()",
        "long needs(int)", "int bypass(int)", "int detours()", "int failure(int)",
        "int counterexample(int)", "int shorten()", "int trim(int)", "int append(int)",
        "int clearText()", "int errorPosition()", "int read()", "int undo()", "int save()",
        "int restore()"
    };
    private static final String[] CONSTANTS = {
        "NO_SUCH", "BAD_VALUE", "NOT_POSSIBLE", "LIMIT", "BAD_TEXT", "NONE"
    };

    public static void main(String[] args) throws Exception {
        Class<BoxedProofs> face = BoxedProofs.class;
        Due.isTrue("public", Modifier.isPublic(face.getModifiers()));
        Due.isTrue("final", Modifier.isFinal(face.getModifiers()));
        constants();
        methods(face);
        Constructor<?>[] constructors = face.getDeclaredConstructors();
        Due.is("constructors", constructors.length, 1);
        Due.isTrue("public constructor", Modifier.isPublic(constructors[0].getModifiers()));
        Due.is("its parameters", constructors[0].getParameterCount(), 0);
        for (Class<?> inside : face.getDeclaredClasses()) {
            Due.isTrue(inside + " static", Modifier.isStatic(inside.getModifiers()));
            Due.isTrue(inside + " not public", !Modifier.isPublic(inside.getModifiers()));
            staticFieldsAreFinal(inside);
        }
        staticFieldsAreFinal(face);
        document();
        Due.end("FaceTest");
    }

    // Terms: "The constants: `NO_SUCH = -1`: There is no such formula, atom, line, box or
    // reference."
    // Terms: "`BAD_VALUE = -2`: Another argument is out of its range."
    // Terms: "`NOT_POSSIBLE = -3`: The call is not possible in the current state, or the rule does
    // not apply."
    // Terms: "`LIMIT = -4`: A limit would be exceeded."
    // Terms: "`BAD_TEXT = -5`: The buffer does not contain a formula."
    // Terms: "`NONE = -6`: There is no such result."
    private static void constants() throws Exception {
        Due.is("NO_SUCH", BoxedProofs.NO_SUCH, -1);
        Due.is("BAD_VALUE", BoxedProofs.BAD_VALUE, -2);
        Due.is("NOT_POSSIBLE", BoxedProofs.NOT_POSSIBLE, -3);
        Due.is("LIMIT", BoxedProofs.LIMIT, -4);
        Due.is("BAD_TEXT", BoxedProofs.BAD_TEXT, -5);
        Due.is("NONE", BoxedProofs.NONE, -6);
        List<String> names = new ArrayList<>();
        for (Field field : BoxedProofs.class.getDeclaredFields()) {
            if (!isHidden(field)) {
                names.add(field.getName());
                Due.isTrue(field + " int", field.getType() == int.class);
                Due.isTrue(field + " public", Modifier.isPublic(field.getModifiers()));
            }
        }
        Due.isTrue("constants " + names, sorted(names).equals(sorted(Arrays.asList(CONSTANTS))));
    }

    // Terms: "All numbers are integers."
    private static void methods(Class<?> face) {
        List<String> shown = new ArrayList<>();
        List<String> publicNames = new ArrayList<>();
        for (Method method : face.getDeclaredMethods()) {
            if (!isHidden(method)) {
                shown.add(signature(method));
                publicNames.add(method.getName());
                Due.isTrue(method + " public", Modifier.isPublic(method.getModifiers()));
                Due.isTrue(method + " not static", !Modifier.isStatic(method.getModifiers()));
            }
        }
        for (Method method : face.getDeclaredMethods()) {
            if (isHidden(method)) {
                Due.isTrue(method + " has a name of its own",
                        !publicNames.contains(method.getName()));
            }
        }
        Due.isTrue("methods " + shown, sorted(shown).equals(sorted(Arrays.asList(METHODS))));
    }

    /** The face as "The public face" of the document has it, where the document is at hand. */
    private static void document() throws Exception {
        Path document = Path.of("../shared/DOC.md");
        if (!Files.exists(document)) {
            return;
        }
        List<String> methods = new ArrayList<>();
        List<String> constants = new ArrayList<>();
        Matcher member = Pattern.compile("(?m)^    public (static final int )?([^;]+);$")
                .matcher(Files.readString(document));
        while (member.find()) {
            if (member.group(1) != null) {
                constants.add(member.group(2).replaceAll(" = .*", ""));
            } else if (!member.group(2).equals("BoxedProofs()")) {
                methods.add(member.group(2).replaceAll("(int|long) \\w+(?=[,)])", "$1")
                        .replace(", ", ","));
            }
        }
        Due.isTrue("methods of the document " + methods,
                sorted(methods).equals(sorted(Arrays.asList(METHODS))));
        Due.isTrue("constants of the document " + constants,
                sorted(constants).equals(sorted(Arrays.asList(CONSTANTS))));
    }

    private static void staticFieldsAreFinal(Class<?> type) {
        for (Field field : type.getDeclaredFields()) {
            if (Modifier.isStatic(field.getModifiers())) {
                Due.isTrue(field + " final", Modifier.isFinal(field.getModifiers()));
            }
        }
    }

    private static boolean isHidden(Member member) {
        return Modifier.isPrivate(member.getModifiers()) || member.isSynthetic();
    }

    private static String signature(Method method) {
        StringBuilder text = new StringBuilder();
        text.append(method.getReturnType()).append(' ').append(method.getName()).append('(');
        for (Class<?> type : method.getParameterTypes()) {
            text.append(text.charAt(text.length() - 1) == '(' ? "" : ",").append(type);
        }
        return text.append(')').toString();
    }

    private static List<String> sorted(List<String> names) {
        List<String> copy = new ArrayList<>(names);
        Collections.sort(copy);
        return copy;
    }
}
