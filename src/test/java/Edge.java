import java.io.IOException;
import java.nio.file.Files;
import java.nio.file.Path;
import java.util.BitSet;
import java.util.LinkedHashMap;
import java.util.Map;
import java.util.regex.Matcher;
import java.util.regex.Pattern;

/**
 * A sentence of the document that names a boundary case, in its own words, and the calls that hold
 * it. The words must stand in the document's section, and every word of a section must be quoted.
 */
final class Edge {
    private static final Map<String, String> SECTIONS = new LinkedHashMap<>();
    private static final Map<String, BitSet> QUOTED = new LinkedHashMap<>();

    private final String name;
    private RenamedCells x = new RenamedCells();

    private Edge(String name) {
        this.name = name;
    }

    // ---- the document

    /** Without the document the calls are tested all the same; only the quotes can't be compared. */
    static void readDocument(Path file) throws IOException {
        if (!Files.exists(file)) {
            System.out.println("no " + file + ": the quotes are not compared with it");
            return;
        }
        String doc = Files.readString(file);
        String terms = between(doc, "## Terms", "The constants:");
        addParts(terms, "(?m)^(IV|III|II|I)\\. ");
        add("use", between(doc, "An object is used", "; what later calls"));
        add("constants", between(doc, "The constants:", "Ahead of the calls"));
        String promises = between(doc, "## Promise 1:", "## Not promised");
        addParts(promises, "(?m)^## Promise (\\d+):[^`]*`[^`]*`:");
        Check.due("the terms, how it is used, the constants, the promises", SECTIONS.size(), 4 + 2 + 52);
    }

    private static String between(String doc, String from, String to) {
        int start = doc.indexOf(from);
        int end = doc.indexOf(to, start + 1);
        return start < 0 || end < 0 ? "" : doc.substring(start, end);
    }

    private static void addParts(String text, String head) {
        Matcher m = Pattern.compile(head).matcher(text);
        String section = null;
        int from = 0;
        while (m.find()) {
            if (section != null) {
                add(section, text.substring(from, m.start()));
            }
            section = m.group(1);
            from = m.end();
        }
        if (section != null) {
            add(section, text.substring(from));
        }
    }

    private static void add(String section, String body) {
        String plain = body.replaceAll("```(text)?", " ").replace("The constants:", " ");
        SECTIONS.put(section, plain.replaceAll("\\s+", " ").trim());
        QUOTED.put(section, new BitSet());
    }

    static void everyWordIsQuoted() {
        for (Map.Entry<String, String> section : SECTIONS.entrySet()) {
            String body = section.getValue();
            BitSet quoted = QUOTED.get(section.getKey());
            StringBuilder wanting = new StringBuilder();
            for (int k = 0; k < body.length(); k++) {
                wanting.append(quoted.get(k) || !Character.isLetterOrDigit(body.charAt(k)) ? ' ' : body.charAt(k));
            }
            String words = wanting.toString().trim().replaceAll("\\s+", " ");
            Check.due(section.getKey() + ": no test quotes (" + words + ")", words.isEmpty(), true);
        }
    }

    // ---- a sentence and its calls

    /** A sentence of a section: use, I to IV, constants, or a promise's number. */
    static Edge of(String section, String quote) {
        if (SECTIONS.isEmpty()) {
            return new Edge(section + ": " + quote);
        }
        String body = SECTIONS.getOrDefault(section, "");
        int at = body.indexOf(quote);
        Check.due("the document has, in " + section + ": " + quote, at >= 0, true);
        while (at >= 0) {
            QUOTED.get(section).set(at, at + quote.length());
            at = body.indexOf(quote, at + 1);
        }
        return new Edge(section + ": " + quote);
    }

    static Edge of(int promise, String quote) {
        return of(Integer.toString(promise), quote);
    }

    /** A new object, with no CORE. */
    Edge anew() {
        x = new RenamedCells();
        return this;
    }

    /** A new object with a CORE. */
    Edge core(String text) {
        x = Check.of(text);
        return this;
    }

    /** The same object is told a text. */
    Edge told(String text, int steps) {
        Check.due(name + ": core of " + text, Check.tell(x, text), steps);
        return this;
    }

    /** Bytes behind THE TAPE, filled up by blanks to a number of twenties. */
    Edge fed(String text) {
        Check.feed(x, text);
        return this;
    }

    Edge calls(String script) {
        Check.script(name, x, script);
        return this;
    }

    Edge times(int n, String script) {
        for (int k = 0; k < n; k++) {
            Check.script(name + " (" + k + ")", x, script);
        }
        return this;
    }

    /** Calls that are refused (fetch!3) and leave all as it is. */
    Edge refused(String script) {
        for (String row : script.trim().split("\\s+")) {
            String before = Check.seen(x);
            Check.due(name + ": " + row + " tells of a refusal", row.indexOf('!') >= 0, true);
            Check.script(name, x, row);
            String after = Check.seen(x);
            Check.due(name + ": " + row + " leaves " + before + " as " + after, before.equals(after), true);
        }
        return this;
    }

    /** Texts with a FAULT; the first ^ marks its place. */
    Edge fails(int fault, String... marked) {
        for (String text : marked) {
            RenamedCells y = new RenamedCells();
            String row = name + ": " + text;
            Check.due(row, Check.tell(y, text.replaceFirst("\\^", "")), -1);
            Check.due(row + " trouble", y.trouble(), 4);
            Check.due(row + " fault", y.fault(), fault);
            Check.due(row + " where", y.where(), text.indexOf('^'));
        }
        return this;
    }

    /** Texts without a FAULT, of so many STEPS. */
    Edge fine(int steps, String... texts) {
        for (String text : texts) {
            RenamedCells y = new RenamedCells();
            String row = name + ": " + text;
            Check.due(row, Check.tell(y, text), steps);
            Check.due(row + " trouble", y.trouble(), 0);
            Check.due(row + " fault", y.fault(), 0);
            Check.due(row + " where", y.where(), -1);
        }
        return this;
    }
}
