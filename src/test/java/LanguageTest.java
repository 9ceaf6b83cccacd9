import java.nio.file.Files;
import java.nio.file.Path;
import java.util.List;
import java.util.Map;
import java.util.Set;
import java.util.TreeMap;
import java.util.TreeSet;
import java.util.regex.Matcher;
import java.util.regex.Pattern;

/** What of ../shared/LANGUAGE.md can be seen by the source's words alone. Started in the project's directory. */
public final class LanguageTest {
    private static final String[] BARRED = {
        "->", "::", "\\bfinally\\b", "\\bsynchronized\\b", "\\bassert\\b", "\\bcatch\\b", "\\btry\\b", "\\bpackage\\b", "\\bprotected\\b",
        "\\bdouble\\b", "\\bfloat\\b", "\\bvar\\b", "\\bSystem\\.(?!arraycopy)", "\\bMath\\.(?!min|max|abs|floorMod|floorDiv)",
        "\\bInteger\\.(?!bitCount|numberOfTrailingZeros)", "\\bArrays\\.(?!fill|copyOf)", "\\bgetMessage\\b", "\\bhashCode\\b",
        "\\btoString\\b", "static \\{", "Exact\\b", "[^\\x00-\\x7f]"
    };

    private LanguageTest() {
    }

    public static void main(String[] args) throws Exception {
        Path file = Path.of("src", "main", "java", "RenamedCells.java");
        List<String> lines = Files.readAllLines(file);
        String code = withoutTexts(String.join("\n", lines));
        for (String barred : BARRED) {
            Matcher m = Pattern.compile(barred).matcher(code);
            Check.due("barred: " + barred, m.find(), false);
        }
        Matcher imports = Pattern.compile("(?m)^import (.*);").matcher(code);
        while (imports.find()) {
            Check.due("import " + imports.group(1), imports.group(1).matches("java\\.util\\.(Arrays|NoSuchElementException)"), true);
        }
        Matcher thrown = Pattern.compile("\\bthrow\\b(.*);").matcher(code);
        int throwsFound = 0;
        while (thrown.find()) {
            throwsFound++;
            Check.due("throw" + thrown.group(1), thrown.group(1).equals(" new NoSuchElementException()"), true);
        }
        Check.due("throws", throwsFound, 1);
        methodLengths(lines);
        Map<String, Set<String>> calls = callsOf(withoutTexts(String.join("\n", lines)));
        Check.due("methods found: " + calls.keySet(), calls.containsKey("trouble") && calls.containsKey("bestQuestion"), true);
        for (String name : calls.keySet()) {
            int depth = depthOf(name, calls, 1);
            Check.due("calls at most eight deep: " + name + " " + depth, depth <= 8, true);
        }
        Check.end("LanguageTest");
    }

    private static String withoutTexts(String code) {
        return code.replaceAll("(?s)/\\*.*?\\*/", "").replaceAll("//[^\n]*", "").replaceAll("\"[^\"\n]*\"", "\"\"");
    }

    private static boolean opensMethod(String line) {
        return line.matches(" {4}( {4})?\\S.*\\) (throws \\w+ )?\\{") && !line.matches("\\s+(if|for|while|switch|\\}).*");
    }

    /** Which names each method calls; methods of one name in several classes count as one. */
    private static Map<String, Set<String>> callsOf(String code) {
        Map<String, Set<String>> calls = new TreeMap<>();
        String within = "";
        for (String line : code.split("\n")) {
            if (opensMethod(line)) {
                within = line.replaceAll("\\(.*", "").replaceAll(".*\\W", "");
                calls.putIfAbsent(within, new TreeSet<>());
                continue;
            }
            Matcher m = Pattern.compile("\\b(\\w+)\\(").matcher(line);
            while (m.find() && !within.isEmpty()) {
                calls.get(within).add(m.group(1));
            }
        }
        return calls;
    }

    /** How many of the class's own methods stand open at once; a method that comes back to itself is too deep. */
    private static int depthOf(String name, Map<String, Set<String>> calls, int level) {
        int deepest = 1;
        for (String called : calls.get(name)) {
            if (calls.containsKey(called)) {
                deepest = Math.max(deepest, level > 20 ? 99 : 1 + depthOf(called, calls, level + 1));
            }
        }
        return deepest;
    }

    private static void methodLengths(List<String> lines) {
        int classes = 0;
        for (int k = 0; k < lines.size(); k++) {
            String line = lines.get(k);
            classes += line.matches(".*\\bclass \\w+ \\{") ? 1 : 0;
            if (!opensMethod(line)) {
                continue;
            }
            String indent = line.replaceAll("\\S.*", "");
            int end = k;
            while (end < lines.size() && !lines.get(end).equals(indent + "}")) {
                end++;
            }
            Check.due("short enough: " + line.trim() + " " + (end - k), end - k <= 60, true);
        }
        Check.due("classes: " + classes, classes <= 12, true);
    }
}
