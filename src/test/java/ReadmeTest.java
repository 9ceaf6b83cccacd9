import java.io.File;
import java.io.IOException;
import java.lang.reflect.Method;
import java.lang.reflect.Modifier;
import java.nio.charset.StandardCharsets;
import java.nio.file.Files;
import java.nio.file.Path;
import java.util.ArrayList;
import java.util.List;
import java.util.TreeSet;
import java.util.regex.Matcher;
import java.util.regex.Pattern;

/** What README.md says is so: its program, its calls, its tests, its commands. Started in the project's directory. */
public final class ReadmeTest {
    private ReadmeTest() {
    }

    public static void main(String[] args) throws Exception {
        String page = Files.readString(Path.of("README.md"));
        example(page);
        calls(page);
        tests(page);
        commands(page);
        Check.end("ReadmeTest");
    }

    // ---- the program

    private static void example(String page) throws Exception {
        List<String> programs = found(page, "(?s)```java\n(.*?)```");
        Check.due("programs on the page", programs.size(), 1);
        List<String> due = found(programs.get(0), "(?m)\\);\\s+// (-?\\d+)$");
        List<String> printed = printedBy(programs.get(0));
        Check.due("rows that the program prints", printed.size(), due.size());
        for (int k = 0; k < Math.min(printed.size(), due.size()); k++) {
            String row = "row " + k + " of the program: " + printed.get(k) + ", due is " + due.get(k);
            Check.due(row, printed.get(k).equals(due.get(k)), true);
        }
        int shows = found(programs.get(0), "(?m)^ +(show)\\(").size();
        // The one that throws shows nothing.
        Check.due("each show has its number", due.size(), shows - 1);
    }

    private static List<String> printedBy(String program) throws Exception {
        Path made = Files.createTempDirectory("readme");
        Path source = made.resolve("Example.java");
        Files.writeString(source, program);
        String classes = System.getProperty("java.class.path");
        List<String> told = rowsOf("javac", "-Xlint:all", "-cp", classes, "-d", made.toString(), source.toString());
        Check.due("the program compiles: " + told, told.isEmpty(), true);
        List<String> printed = rowsOf("java", "-cp", classes + File.pathSeparator + made, "Example");
        File[] left = made.toFile().listFiles();
        for (File file : left == null ? new File[0] : left) {
            Files.delete(file.toPath());
        }
        Files.delete(made);
        return printed;
    }

    private static List<String> rowsOf(String... command) throws Exception {
        Process process = new ProcessBuilder(command).redirectErrorStream(true).start();
        String rows = new String(process.getInputStream().readAllBytes(), StandardCharsets.ISO_8859_1);
        Check.due(command[0] + " ends well: " + rows, process.waitFor(), 0);
        return rows.lines().toList();
    }

    // ---- the calls

    private static void calls(String page) {
        String table = page.substring(page.indexOf("| calls |"), page.indexOf("## Tests"));
        TreeSet<String> face = new TreeSet<>();
        for (Method m : RenamedCells.class.getDeclaredMethods()) {
            if (Modifier.isPublic(m.getModifiers())) {
                face.add(m.getName());
            }
        }
        List<String> named = found(table, "`(\\w+)`");
        Check.due("each call is told once", named.size(), face.size());
        Check.due("calls told " + named + ", calls there are " + face, new TreeSet<>(named).equals(face), true);
    }

    // ---- the tests

    private static void tests(String page) throws IOException {
        TreeSet<String> there = new TreeSet<>();
        File[] files = new File("src/test/java").listFiles();
        for (File file : files == null ? new File[0] : files) {
            if (file.getName().endsWith("Test.java")) {
                there.add(file.getName().replace(".java", ""));
            }
        }
        TreeSet<String> named = new TreeSet<>(found(page, "(?m)^\\| (\\w+Test) \\|"));
        Check.due("tests told " + named + ", tests there are " + there, named.equals(there), true);
        Check.due(".ci/run can be run", new File(".ci/run").canExecute(), true);
    }

    private static void commands(String page) throws IOException {
        String script = Files.readString(Path.of(".ci", "run"));
        String plain = script.replace("\"$out/own\"", "out").replace("\"$main\"", "src/main/java/RenamedCells.java")
                .replace("\"$here\"/", "").replace("\"$shared\"", "../shared").replace("\"$1\"", "out").replace("\"$2\"", "EdgeTest");
        List<String> commands = found(page.substring(page.indexOf("## Tests")), "(?m)^ {4}(\\S.*)$");
        Check.due("commands on the page", commands.size(), 4);
        for (String command : commands) {
            Check.due(".ci/run goes this way: " + command, command.equals(".ci/run") || plain.contains(command), true);
        }
    }

    private static List<String> found(String text, String pattern) {
        List<String> all = new ArrayList<>();
        Matcher m = Pattern.compile(pattern).matcher(text);
        while (m.find()) {
            all.add(m.group(1));
        }
        return all;
    }
}
