import java.io.File;
import java.io.IOException;
import java.lang.reflect.Method;
import java.nio.file.Files;
import java.nio.file.Path;
import java.util.List;
import java.util.TreeSet;
import java.util.regex.Matcher;
import java.util.regex.Pattern;
import java.util.stream.Stream;
import javax.tools.ToolProvider;

/** What README.md says is so: its calls answer as it shows, and the tests that it names are there. */
final class ReadmeTest {
    private static final Pattern BLOCK = Pattern.compile("```java\n(.*?)```", Pattern.DOTALL);
    private static final Pattern MAKER = Pattern.compile("CallExplorer x = new CallExplorer\\(-?\\d+\\);");
    private static final Pattern CALL = Pattern.compile("(.+);\\s+// (\"[^\"]*\"|-?\\d+|true|false)(: .*)?");
    private static final Pattern PATH = Pattern.compile("`([\\w.]*/[\\w./]*)`");
    private static final Pattern TEST_ROW = Pattern.compile("\\| `(\\w+Test)` \\|");
    private static final Pattern CALL_ROW = Pattern.compile("\\| `(\\w+)\\(.*?\\)` \\|");

    public static void main(String[] args) throws IOException, ReflectiveOperationException {
        String readme = Files.readString(Path.of("README.md"));
        callsAnswerAsShown(readme);
        allCallsAreListed(readme);
        allTestsAreListed(readme);
        pathsAreThere(readme);
        commandRunsTheTests(readme);
        Check.end();
    }

    /** The blocks of README are compiled and run as they stand there; Check counts the wrong answers. */
    private static void callsAnswerAsShown(String readme) throws IOException, ReflectiveOperationException {
        Path classes = Path.of(System.getProperty("java.class.path").split(File.pathSeparator)[0]);
        Path source = classes.resolve("ReadmeCalls.java");
        Files.writeString(source, sourceOf(readme));
        int failed = ToolProvider.getSystemJavaCompiler().run(null, null, null,
            "-cp", classes.toString(), "-d", classes.toString(), source.toString());
        Check.due("README's calls compile", failed, 0);
        if (failed == 0) {
            Class.forName("ReadmeCalls").getDeclaredMethod("run").invoke(null);
        }
    }

    private static String sourceOf(String readme) {
        StringBuilder functions = new StringBuilder();
        StringBuilder rows = new StringBuilder();
        Matcher block = BLOCK.matcher(readme);
        while (block.find()) {
            if (block.group(1).startsWith("static ")) {
                functions.append(block.group(1));
            } else {
                block.group(1).lines().filter(row -> !row.isBlank()).forEach(row -> rows.append(checked(row)));
            }
        }
        Check.due("README shows calls", rows.toString().contains("Check.due("), true);
        return "final class ReadmeCalls {\n" + functions + "static void run() {\n" + rows + "}\n}\n";
    }

    /** A row with its call and the answer behind it, as a check of that answer. */
    private static String checked(String row) {
        if (MAKER.matcher(row).matches()) {
            return row + "\n";
        }
        Matcher call = CALL.matcher(row);
        Check.due("README tells the answer of " + row, call.matches(), true);
        if (!call.matches()) {
            return "";
        }
        String name = call.group(1).replace("\"", "'");
        return "Check.due(\"README: " + name + "\", " + call.group(1) + ", " + call.group(2) + ");\n";
    }

    private static void allCallsAreListed(String readme) {
        TreeSet<String> face = new TreeSet<>();
        face.add("CallExplorer");
        for (Method method : CallExplorer.class.getMethods()) {
            if (method.getDeclaringClass() == CallExplorer.class) {
                face.add(method.getName());
            }
        }
        Check.due("calls in README", found(CALL_ROW, readme).toString(), face.toString());
    }

    private static void allTestsAreListed(String readme) throws IOException {
        TreeSet<String> tests = new TreeSet<>();
        try (Stream<Path> files = Files.list(Path.of("src/test/java"))) {
            files.map(file -> file.getFileName().toString()).filter(name -> name.endsWith("Test.java"))
                .forEach(name -> tests.add(name.replace(".java", "")));
        }
        Check.due("tests in README", found(TEST_ROW, readme).toString(), tests.toString());
    }

    private static TreeSet<String> found(Pattern pattern, String readme) {
        TreeSet<String> names = new TreeSet<>();
        Matcher matcher = pattern.matcher(readme);
        while (matcher.find()) {
            names.add(matcher.group(1));
        }
        return names;
    }

    private static void pathsAreThere(String readme) {
        for (String path : found(PATH, readme)) {
            Check.due(path + " is there", Files.exists(Path.of(path)), true);
        }
    }

    /** The one command that README shows is the script that runs this test among the others. */
    private static void commandRunsTheTests(String readme) {
        List<String> commands = readme.lines().filter(row -> row.startsWith("    .")).toList();
        Check.due("commands in README", commands.toString(), "[    .ci/run]");
        Check.due(".ci/run can be run", Files.isExecutable(Path.of(".ci/run")), true);
    }
}
