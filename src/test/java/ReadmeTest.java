import java.io.ByteArrayOutputStream;
import java.io.IOException;
import java.io.PrintStream;
import java.lang.reflect.Method;
import java.lang.reflect.Modifier;
import java.net.URL;
import java.net.URLClassLoader;
import java.nio.file.DirectoryStream;
import java.nio.file.Files;
import java.nio.file.Path;
import java.util.ArrayList;
import java.util.List;
import java.util.Set;
import java.util.TreeSet;
import java.util.regex.Matcher;
import java.util.regex.Pattern;
import javax.tools.ToolProvider;

/** What README.md shows holds: its examples print what stands below them, its tables are true and whole. */
public final class ReadmeTest {
    private static final Check CHECK = new Check();
    private static final Path TESTS = Path.of("src", "test", "java");
    private static final Pattern EXAMPLE = Pattern.compile("```java\n(.*?)```\n\nprints\n\n```text\n(.*?)```", Pattern.DOTALL);

    private final String readme;

    private ReadmeTest(String readme) {
        this.readme = readme;
    }

    public static void main(String[] args) throws Exception {
        ReadmeTest test = new ReadmeTest(Files.readString(Path.of("README.md")));
        test.examples();
        CHECK.run(test::calls, test::modes, test::kinds, test::tests);
    }

    private void examples() throws Exception {
        Matcher example = EXAMPLE.matcher(readme);
        int count = 0;
        while (example.find()) {
            count++;
            CHECK.due("example " + count, printed("Example" + count, example.group(1)).strip(), example.group(2).strip());
        }
        CHECK.due("the examples in Java that are told with what they print", count, readme.split("```java").length - 1);
    }

    private static String printed(String name, String body) throws Exception {
        Path folder = Files.createTempDirectory("readme");
        try {
            return printed(folder, name, body);
        } finally {
            clear(folder);
        }
    }

    private static void clear(Path folder) throws IOException {
        try (DirectoryStream<Path> files = Files.newDirectoryStream(folder)) {
            for (Path file : files) {
                Files.delete(file);
            }
        }
        Files.delete(folder);
    }

    private static String printed(Path folder, String name, String body) throws Exception {
        Path source = folder.resolve(name + ".java");
        Files.writeString(source, "public class " + name + " { public static void main(String[] args) {\n" + body + "}}");
        String path = System.getProperty("java.class.path");
        int failed = ToolProvider.getSystemJavaCompiler().run(null, null, null,
                "-cp", path, "-d", folder.toString(), source.toString());
        CHECK.due(name + " compiles", failed, 0);
        return failed == 0 ? outputOf(folder, name) : "";
    }

    private static String outputOf(Path folder, String name) throws Exception {
        PrintStream console = System.out;
        ByteArrayOutputStream output = new ByteArrayOutputStream();
        try (URLClassLoader loader = new URLClassLoader(new URL[] {folder.toUri().toURL()})) {
            System.setOut(new PrintStream(output, true));
            loader.loadClass(name).getMethod("main", String[].class).invoke(null, (Object) new String[0]);
        } finally {
            System.setOut(console);
        }
        return output.toString();
    }

    /** The rows of the table with this head, without the head. */
    private List<String[]> table(String head) {
        List<String[]> rows = new ArrayList<>();
        int start = readme.indexOf("\n| " + head + " |");
        CHECK.due("there is a table of each " + head, start >= 0, true);
        String[] lines = readme.substring(Math.max(0, start) + 1).split("\n");
        for (int i = 2; i < lines.length && lines[i].startsWith("|"); i++) {
            rows.add(cells(lines[i]));
        }
        return rows;
    }

    private static String[] cells(String line) {
        String[] cells = line.substring(1, line.length() - 1).split("\\|");
        for (int i = 0; i < cells.length; i++) {
            cells[i] = cells[i].strip();
        }
        return cells;
    }

    private void calls() {
        Set<String> told = new TreeSet<>();
        for (String[] row : table("call")) {
            String call = row[0].replace("`", "");
            String arguments = call.substring(call.indexOf('(') + 1, call.indexOf(')'));
            told.add(call.substring(0, call.indexOf('(')) + " of " + (arguments.isEmpty() ? 0 : arguments.split(",").length));
        }
        Set<String> due = new TreeSet<>();
        for (Method method : DecimalDesk.class.getDeclaredMethods()) {
            if (Modifier.isPublic(method.getModifiers())) {
                due.add(method.getName() + " of " + method.getParameterCount());
            }
        }
        CHECK.due("the calls", told, due);
    }

    private void modes() {
        String[] head = cells(readme.substring(readme.indexOf("| mode | name |")).split("\n")[0]);
        List<String[]> rows = table("mode");
        CHECK.due("the modes", rows.size(), 8);
        for (int mode = 0; mode < rows.size(); mode++) {
            String[] row = rows.get(mode);
            CHECK.due("the mode", row[0], "" + mode);
            for (int i = 2; i < row.length; i++) {
                CHECK.due(head[i] + " by mode " + mode, row[i], rounded(head[i], mode));
            }
        }
    }

    private static String rounded(String number, int mode) {
        DecimalDesk desk = Check.desk(number);
        String thrown = Check.thrown(() -> desk.toScale(0, 1, 0, mode));
        desk.written(1, 0);
        return thrown.isEmpty() ? Check.lastWritten(desk) : thrown.equals("ArithmeticException") ? "refused" : thrown;
    }

    private void kinds() {
        for (String[] row : table("number")) {
            String number = row[0] + "e" + -Integer.parseInt(row[1]);
            for (int kind = 0; kind < 3; kind++) {
                CHECK.due(number + " in kind " + kind, row[2 + kind], Check.written(number, kind));
            }
        }
    }

    private void tests() {
        Set<String> told = new TreeSet<>();
        for (String[] row : table("test")) {
            told.add(row[0].replace("`", ""));
        }
        Set<String> due = new TreeSet<>();
        try (DirectoryStream<Path> files = Files.newDirectoryStream(TESTS, "*Test.java")) {
            for (Path file : files) {
                due.add(file.getFileName().toString().replace(".java", ""));
            }
        } catch (IOException e) {
            due.add(e.toString());
        }
        CHECK.due("the tests", told, due);
    }
}
