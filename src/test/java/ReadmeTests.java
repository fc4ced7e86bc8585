import java.io.IOException;
import java.lang.reflect.InvocationTargetException;
import java.net.URL;
import java.net.URLClassLoader;
import java.nio.file.Files;
import java.nio.file.Path;
import java.util.ArrayList;
import java.util.List;
import java.util.regex.Matcher;
import java.util.regex.Pattern;
import javax.tools.ToolProvider;

/** The examples and the tables of README.md: a reader must be able to rely on them. */
public final class ReadmeTests {
    private static final Path README = Path.of("README.md");
    private static final Path TESTS = Path.of("src/test/java");
    private static final Check CHECK = new Check("ReadmeTests");
    private static final Pattern BLOCK = Pattern.compile("```java\n(.*?)```", Pattern.DOTALL);
    /** A call with its answer behind it, and perhaps a variable ahead of it and words behind the answer. */
    private static final Pattern ANSWERED =
            Pattern.compile("(?:(\\w+) (\\w+) = )?(.+?);\\s+// (throws )?(.+?)(?:: .*)?");
    private static final Pattern COMMAND_ROW = Pattern.compile("\\| `([^`]+)` \\| `(\\w+\\([^`]*\\))` \\|");
    private static final Pattern REASON_ROW = Pattern.compile("\\| `([A-Z_]+)` \\| (\\d) \\|.*");

    private static int looks;

    /** A call of an example. */
    public interface Step {
        Object make();
    }

    /** A call of the table of commands. */
    public interface Deed {
        Object on(LintelBrothers x);
    }

    public static void main(String[] args) throws IOException, ReflectiveOperationException {
        String readme = Files.readString(README);
        runProgram(program(readme));
        CHECK.same("answers in the examples", true, () -> looks >= 50);
        reasons(readme);
        everyTestIsNamed(readme);
        CHECK.end();
    }

    // ---- what the program made of the examples calls

    public static void look(String line, Object due, Step step) {
        looks++;
        CHECK.same(line, due, step::make);
    }

    /** The command does what the call does. */
    public static void sameDoing(String command, Deed call) {
        LintelBrothers called = twoDoors();
        call.on(called);
        LintelBrothers commanded = twoDoors();
        CHECK.same(command, 1, () -> Scenes.run(commanded, command));
        CHECK.same(command, Look.data(called), () -> Look.data(commanded));
    }

    private static LintelBrothers twoDoors() {
        LintelBrothers x = Scenes.doors(0, 30, 4, 40);
        x.addConstraint('<', 0, 1, 7);
        x.narrow(0, 3, 29);
        return x;
    }

    // ---- the program

    private static String program(String readme) {
        StringBuilder functions = new StringBuilder();
        StringBuilder steps = new StringBuilder();
        Matcher block = BLOCK.matcher(readme);
        while (block.find()) {
            if (block.group(1).startsWith("static ")) {
                functions.append(block.group(1));
            } else {
                block.group(1).lines().forEach(line -> steps.append(step(line)).append('\n'));
            }
        }
        return "public class ReadmeProgram {\n" + functions + "public static void run() {\n" + steps
                + commandRows(readme) + "}\n}\n";
    }

    private static String step(String line) {
        Matcher answered = ANSWERED.matcher(line.strip());
        if (!answered.matches()) {
            return line;
        }
        boolean isThrown = answered.group(4) != null;
        String due = isThrown ? quoted("throws." + answered.group(5)) : answered.group(5);
        String variable = answered.group(2);
        String declared = variable == null ? "" : line.substring(0, line.indexOf("//")) + "\n";
        String call = variable == null ? answered.group(3) : variable;
        return declared + "ReadmeTests.look(" + quoted(line.strip()) + ", " + due + ", () -> " + call + ");";
    }

    private static String quoted(String text) {
        return "\"" + text.replace("\\", "\\\\").replace("\"", "\\\"") + "\"";
    }

    private static String commandRows(String readme) {
        StringBuilder rows = new StringBuilder();
        List<String> kinds = new ArrayList<>();
        for (String line : readme.split("\n")) {
            Matcher row = COMMAND_ROW.matcher(line);
            if (row.matches()) {
                rows.append("ReadmeTests.sameDoing(").append(quoted(row.group(1))).append(", x -> x.")
                        .append(row.group(2)).append(");\n");
                kinds.add(row.group(1).replaceAll("[0-9]+", "n"));
            }
        }
        CHECK.same("commands in the table", "[door n-n, frame n n-n, narrow n n-n, n<n+n, n=n+n, n#n+n, drop n, pass, "
                + "settle, reset]", kinds::toString);
        return rows.toString();
    }

    private static void runProgram(String program) throws IOException, ReflectiveOperationException {
        Path folder = Files.createTempDirectory("readme");
        Path source = folder.resolve("ReadmeProgram.java");
        try {
            Files.writeString(source, program);
            int code = ToolProvider.getSystemJavaCompiler().run(null, null, null, "-cp",
                    System.getProperty("java.class.path"), "-d", folder.toString(), source.toString());
            CHECK.same("the examples compile", 0, () -> code);
            if (code == 0) {
                runCompiled(folder);
            }
        } finally {
            removeAll(folder);
        }
    }

    private static void runCompiled(Path folder) throws IOException, ReflectiveOperationException {
        try (URLClassLoader loader = new URLClassLoader(new URL[] {folder.toUri().toURL()})) {
            loader.loadClass("ReadmeProgram").getMethod("run").invoke(null);
        } catch (InvocationTargetException thrown) {
            CHECK.same("a call without an answer behind it", "nothing thrown", thrown::getCause);
        }
    }

    private static void removeAll(Path folder) throws IOException {
        try (var files = Files.newDirectoryStream(folder)) {
            for (Path file : files) {
                Files.delete(file);
            }
        }
        Files.delete(folder);
    }

    // ---- the other tables

    private static void reasons(String readme) throws ReflectiveOperationException {
        int rows = 0;
        for (String line : readme.split("\n")) {
            Matcher row = REASON_ROW.matcher(line);
            if (row.matches()) {
                int number = LintelBrothers.class.getField(row.group(1)).getInt(null);
                CHECK.same(row.group(1), Integer.parseInt(row.group(2)), () -> number);
                rows++;
            }
        }
        int all = rows;
        CHECK.same("reasons in the table", 6, () -> all);
    }

    private static void everyTestIsNamed(String readme) throws IOException {
        try (var files = Files.newDirectoryStream(TESTS, "*{Tests,Chapter}.java")) {
            for (Path file : files) {
                String name = file.getFileName().toString().replace(".java", "");
                boolean isNamed = name.equals("Chapter") || readme.contains("| `" + name + "` | ");
                CHECK.same("named in README.md: " + name, true, () -> isNamed);
            }
        }
    }
}
