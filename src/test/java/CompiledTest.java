import java.io.PrintWriter;
import java.io.StringWriter;
import java.nio.file.Files;
import java.nio.file.Path;
import java.util.ArrayList;
import java.util.List;
import java.util.Map;
import java.util.Set;
import java.util.TreeMap;
import java.util.TreeSet;
import java.util.regex.Matcher;
import java.util.regex.Pattern;
import java.util.spi.ToolProvider;
import java.util.stream.Stream;

/** Rules of ../shared/LANGUAGE.md that can be seen from what the program is compiled to. */
public final class CompiledTest {
    private static final Path CLASSES = Path.of("build/project");
    private static final Pattern HEAD = Pattern.compile("  (?:\\S.* )?([\\w.$]+)\\(.*\\);");
    private static final Pattern STEP = Pattern.compile(" +\\d+: (\\w+)(?:.*// (.*))?.*");
    private static final Set<String> LIBRARY = Set.of("java/lang/Object.<init>",
            "java/lang/Math.min", "java/lang/Math.max", "java/lang/Integer.bitCount",
            "java/lang/Long.bitCount", "java/lang/System.arraycopy");
    private static final Set<String> NEVER = Set.of("athrow", "monitorenter", "monitorexit",
            "invokedynamic", "invokeinterface", "checkcast", "instanceof", "putstatic",
            "multianewarray");
    private static final Set<String> MAKING = Set.of("new", "newarray", "anewarray");

    /** The methods that each method calls. */
    private static final Map<String, Set<String>> CALLED = new TreeMap<>();

    public static void main(String[] args) throws Exception {
        if (ToolProvider.findFirst("javap").isEmpty()) {
            System.out.println("CompiledTest: javap is not there, nothing to look at");
            return;
        }
        try (Stream<Path> found = Files.list(CLASSES)) {
            for (Path file : found.sorted().toList()) {
                String name = file.getFileName().toString().replace(".class", "");
                if (name.equals("BoxedProofs") || name.startsWith("BoxedProofs$")) {
                    look(name, shown(file));
                }
            }
        }
        Due.isTrue("the methods are found: " + CALLED.size(), CALLED.size() > 100);
        int deepest = 0;
        for (String method : CALLED.keySet()) {
            deepest = Math.max(deepest, depth(method, new ArrayList<>()));
        }
        Due.isTrue("rule 11: calls go at most 8 deep: " + deepest, deepest <= 8);
        Due.isTrue("calls are found", deepest > 3);
        Due.end("CompiledTest");
    }

    private static String shown(Path file) {
        StringWriter out = new StringWriter();
        int failed = ToolProvider.findFirst("javap").orElseThrow().run(new PrintWriter(out),
                new PrintWriter(System.out), "-c", "-p", file.toString());
        Due.is("javap " + file, failed, 0);
        return out.toString();
    }

    private static void look(String type, String text) {
        Due.isTrue("rule 6: no catch in " + type, !text.contains("Exception table"));
        String method = "";
        for (String line : text.split("\n")) {
            Matcher head = HEAD.matcher(line);
            Matcher step = STEP.matcher(line);
            if (head.matches()) {
                boolean isConstructor = head.group(1).equals(type);
                method = type + "." + (isConstructor ? "<init>" : head.group(1));
                CALLED.put(method, new TreeSet<>());
            } else if (step.matches()) {
                step(type, method, step.group(1), step.group(2));
            }
        }
    }

    private static void step(String type, String method, String code, String about) {
        if (NEVER.contains(code)) {
            Due.isTrue("rules 2, 5 and 6: no " + code + " in " + method, false);
        }
        if (MAKING.contains(code)) {
            Due.isTrue("rule 12: made in a constructor, not in " + method,
                    method.endsWith(".<init>"));
        }
        if (code.startsWith("invoke")) {
            String called = about.replaceFirst("^Method ", "").replaceFirst(":.*", "")
                    .replace("\"", "");
            called = called.contains(".") ? called : type + "." + called;
            if (called.startsWith("BoxedProofs")) {
                CALLED.get(method).add(called);
            } else {
                Due.isTrue("rule 4: " + called, LIBRARY.contains(called));
            }
        }
    }

    /** How many calls stand open at once, this one among them. */
    private static int depth(String method, List<String> open) {
        Due.isTrue("a method that is found: " + method, CALLED.containsKey(method));
        Due.isTrue("rule 8: no recursion: " + open, !open.contains(method));
        if (open.contains(method)) {
            return 0;
        }
        open.add(method);
        int deepest = 0;
        for (String called : CALLED.getOrDefault(method, Set.of())) {
            deepest = Math.max(deepest, depth(called, open));
        }
        open.remove(method);
        return deepest + 1;
    }
}
