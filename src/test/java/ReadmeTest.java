import java.lang.reflect.Method;
import java.lang.reflect.Modifier;
import java.nio.file.Files;
import java.nio.file.Path;
import java.util.ArrayList;
import java.util.List;
import java.util.TreeSet;
import java.util.regex.Matcher;
import java.util.regex.Pattern;
import java.util.stream.Stream;

/**
 * What README.md says is so: its example is compiled and run by its commands and answers what its
 * remarks tell, its command runs all tests, its tables name every method and every test.
 */
public final class ReadmeTest {
    private static final String TESTING = "## How to run its tests";
    private static final Path TESTS = Path.of("src/test/java");
    private static final Path WORK = Path.of("build/readme");

    // A call in a line of the example, and ahead of the colon of its remark what it answers.
    private static final Pattern TOLD = Pattern.compile(
            "(?:int (\\w+) = )?(x\\.\\w+\\(.*\\)); +// ([A-Z_]+|-?\\d+): .+");
    // A line that has no answer to tell.
    private static final Pattern SILENT = Pattern.compile(
            "BoxedProofs x = new BoxedProofs\\(\\);|for \\(.*\\{|\\}| {4}x\\.append\\(\\w+\\);");

    public static void main(String[] args) throws Exception {
        String readme = Files.readString(Path.of("README.md"));
        String use = readme.substring(0, readme.indexOf(TESTING));
        String testing = readme.substring(readme.indexOf(TESTING));
        example(block(use, "java"), block(use, "sh"));
        everyMethodIsNamed(use);
        command(testing);
        everyTestIsNamed(testing);
        Due.end("ReadmeTest");
    }

    private static String block(String text, String language) {
        Matcher found = Pattern.compile("(?s)```" + language + "\n(.*?)```").matcher(text);
        Due.isTrue("a block of " + language, found.find());
        return found.group(1);
    }

    /** The example becomes the program that the commands compile and run. */
    private static void example(String example, String commands) throws Exception {
        List<String> calls = new ArrayList<>();
        Files.createDirectories(WORK);
        Files.writeString(WORK.resolve("YourProgram.java"), program(example, calls));
        String printed = "";
        for (String command : commands.split("\n")) {
            printed = run(command.replace("YourProgram.java", WORK + "/YourProgram.java"));
        }
        String[] rows = printed.split("\n");
        Due.is("answers of the example", rows.length, calls.size());
        for (int i = 0; i < Math.min(rows.length, calls.size()); i++) {
            String[] numbers = rows[i].split(" ");
            Due.isTrue("README.md: " + calls.get(i) + ", answered and told: " + rows[i],
                    numbers.length == 2 && numbers[0].equals(numbers[1]));
        }
        Due.isTrue("the example tells its answers", calls.size() >= 10);
    }

    /** Behind each call of the example, what it answers and what its remark tells is printed. */
    private static String program(String example, List<String> calls) {
        StringBuilder code = new StringBuilder("public final class YourProgram {\n");
        for (String name : List.of("NO_SUCH", "BAD_VALUE", "NOT_POSSIBLE", "LIMIT", "BAD_TEXT",
                "NONE")) {
            code.append("static final int " + name + " = BoxedProofs." + name + ";\n");
        }
        code.append("public static void main(String[] args) {\n");
        for (String line : example.split("\n")) {
            Matcher told = TOLD.matcher(line);
            if (told.matches()) {
                String name = told.group(1) == null ? "answer" + calls.size() : told.group(1);
                code.append(told.group(1) == null ? "long " : "int ");
                code.append(name + " = " + told.group(2) + ";\n");
                code.append("System.out.println(" + name + " + \" \" + " + told.group(3) + ");\n");
                calls.add(told.group(2));
            } else {
                Due.isTrue("a line that is understood: " + line, SILENT.matcher(line).matches());
                code.append(line + "\n");
            }
        }
        return code.append("}\n}\n").toString();
    }

    private static String run(String command) throws Exception {
        Process process = new ProcessBuilder(command.split(" "))
                .redirectError(ProcessBuilder.Redirect.INHERIT).start();
        String printed = new String(process.getInputStream().readAllBytes());
        int failed = process.waitFor();
        Due.is("exit code of " + command, failed, 0);
        return printed;
    }

    /** The command is the script, and the script finds each file that is a test. */
    private static void command(String testing) throws Exception {
        Due.isTrue("the command", block(testing, "sh").equals(".ci/run\n"));
        Due.isTrue("it is executable", Files.isExecutable(Path.of(".ci/run")));
        String script = Files.readString(Path.of(".ci/run"));
        Due.isTrue("it runs the tests of the project",
                script.contains("for source in src/test/java/*Test.java; do"));
        Due.isTrue("it runs the tests of ../shared/tests",
                script.contains("for source in ../shared/tests/**/*.java; do"));
        try (Stream<Path> found = Files.walk(Path.of("src/test"))) {
            for (Path file : found.filter(Files::isRegularFile).toList()) {
                boolean isTest = Files.readString(file).contains("public static void main(");
                boolean isFound = file.getParent().equals(TESTS)
                        && file.toString().endsWith("Test.java");
                Due.isTrue(file + " is a test that .ci/run finds, or none", isTest == isFound);
            }
        }
    }

    private static void everyMethodIsNamed(String use) {
        for (Method method : BoxedProofs.class.getDeclaredMethods()) {
            if (Modifier.isPublic(method.getModifiers())) {
                Due.isTrue("README.md names " + method.getName(),
                        use.contains("`" + method.getName() + "("));
            }
        }
    }

    /** The table has each test, and no test that is not there. */
    private static void everyTestIsNamed(String testing) throws Exception {
        TreeSet<String> named = new TreeSet<>();
        Matcher row = Pattern.compile("(?m)^\\| (`\\w+`(?:, `\\w+`)*) \\| .+ \\|$").matcher(
                testing);
        while (row.find()) {
            named.addAll(List.of(row.group(1).replace("`", "").split(", ")));
        }
        TreeSet<String> there = new TreeSet<>();
        try (Stream<Path> found = Files.list(TESTS)) {
            found.map(file -> file.getFileName().toString()).filter(f -> f.endsWith("Test.java"))
                    .forEach(file -> there.add(file.replace(".java", "")));
        }
        Due.isTrue("README.md names the tests " + there + ", not " + named, named.equals(there));
    }
}
