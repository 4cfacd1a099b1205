import java.io.IOException;
import java.nio.file.Files;
import java.nio.file.Path;
import java.util.ArrayList;
import java.util.HashMap;
import java.util.HashSet;
import java.util.List;
import java.util.Map;
import java.util.Set;
import java.util.TreeMap;
import java.util.TreeSet;
import java.util.regex.Matcher;
import java.util.regex.Pattern;

/** The program's own lines beside the rules of LANGUAGE.md, as far as lines can show them. */
public final class LanguageTest {
    private static final Path PROGRAM = Path.of("src/main/java/PaidFaces.java");
    private static final Pattern TYPE = Pattern.compile("(.*?)\\b(class|enum|interface|record) (\\w+).*\\{");
    private static final Pattern METHOD = Pattern.compile("((?:public|private|protected|static|final|abstract) )*"
        + "(?:(\\w+(?:\\[\\])*) )?(\\w+)\\((.*)\\)(?: throws (.*))? \\{");
    private static final Pattern FIELD = Pattern.compile("((?:public |private |protected |static |final |volatile )*)"
        + "(\\w+(?:\\[\\])*) (\\w+)( = .*)?;");
    private static final Pattern CALL = Pattern.compile("(\\.\\s*)?\\b([a-z]\\w*)\\(");
    private static final Set<String> NO_CALL = Set.of("if", "for", "while", "switch", "return", "this", "super", "catch");
    /** What a plain name stands for when another class's method is called by it. */
    private static final Set<String> LIBRARY_CALLS = Set.of("max", "min", "arraycopy", "length", "charAt", "values");

    private static final List<String> lines = new ArrayList<>();
    /** Class.method to the lines of its body. */
    private static final Map<String, List<String>> bodies = new TreeMap<>();
    private static final Map<String, Integer> parameters = new TreeMap<>();
    private static final Map<String, Integer> fields = new TreeMap<>();
    private static final Set<String> open = new TreeSet<>();
    private static final Set<String> hidden = new TreeSet<>();
    private static final Map<String, Integer> depths = new HashMap<>();

    private LanguageTest() {
    }

    public static void main(String[] args) throws IOException {
        for (String line : Files.readString(PROGRAM).split("\n")) {
            lines.add(plain(line));
        }
        sort();
        face();
        words();
        sizes();
        for (String method : bodies.keySet()) {
            Check.due("calls open below " + method, depth(method, new HashSet<>()) <= 8, true);
        }
        Check.due("the deepest call", depths.values().stream().max(Integer::compare).orElse(0) >= 6, true);
        Check.end();
    }

    /** A line without what a comment or a text in it says. */
    private static String plain(String line) {
        String trimmed = line.trim();
        if (trimmed.startsWith("/*") || trimmed.startsWith("*")) {
            return "";
        }
        return trimmed.replaceAll("\"(?:[^\"\\\\]|\\\\.)*\"", "\"\"").replaceAll("'(?:[^'\\\\]|\\\\.)'", "' '")
            .replaceAll("//.*", "").trim();
    }

    /** Puts each line to the class and the method that it stands in. */
    private static void sort() {
        List<String> classes = new ArrayList<>();
        List<Integer> ends = new ArrayList<>();
        String method = null;
        int methodEnd = 0;
        int depth = 0;
        for (String line : lines) {
            Matcher type = TYPE.matcher(line);
            Matcher head = METHOD.matcher(line);
            Matcher field = FIELD.matcher(line);
            if (method == null && type.matches()) {
                classes.add(type.group(3));
                ends.add(depth);
                fields.put(type.group(3), 0);
                if (classes.size() > 1) {
                    Check.due("private or package-visible: " + line, !type.group(1).contains("public")
                        && !type.group(1).contains("protected"), true);
                    Check.due("static: " + line, type.group(1).contains("static") || !type.group(2).equals("class"), true);
                } else {
                    Check.due("the class of the document", line, "public final class PaidFaces {");
                }
            } else if (method == null && !classes.isEmpty() && head.matches()) {
                String name = classes.get(classes.size() - 1) + "." + (head.group(2) == null ? "new " : "") + head.group(3);
                Check.due("told once: " + name, bodies.containsKey(name) && head.group(2) != null, false);
                method = name;
                methodEnd = depth;
                bodies.computeIfAbsent(name, k -> new ArrayList<>());
                parameters.merge(name, head.group(4).isEmpty() ? 0 : head.group(4).split(",").length, Integer::max);
                if (head.group(2) != null) {
                    (line.startsWith("public ") ? open : hidden).add(head.group(3));
                }
                Check.due("public only on the face: " + line, line.startsWith("public ") && classes.size() > 1, false);
            } else if (method == null && !classes.isEmpty() && field.matches()) {
                readField(line, field, classes.get(classes.size() - 1));
            } else if (method != null) {
                bodies.get(method).add(line);
            }
            for (char sign : line.toCharArray()) {
                depth += sign == '{' ? 1 : sign == '}' ? -1 : 0;
                if (sign == '}' && method != null && depth == methodEnd) {
                    method = null;
                } else if (sign == '}' && method == null && !ends.isEmpty() && depth == ends.get(ends.size() - 1)) {
                    classes.remove(classes.size() - 1);
                    ends.remove(ends.size() - 1);
                }
            }
        }
        Check.due("braces left open", depth, 0);
    }

    private static void readField(String line, Matcher field, String owner) {
        String kinds = field.group(1);
        if (kinds.contains("static")) {
            Check.due("rule 5, final: " + line, kinds.contains("final"), true);
            Check.due("rule 5, of a constant's type: " + line,
                field.group(2).matches("int|long|boolean|char|String|Token\\[\\]"), true);
        } else {
            fields.merge(owner, 1, Integer::sum);
        }
        Check.due("rule 1: " + line, kinds.contains("private") || line.startsWith("public static final int NONE"), true);
        Check.due("rule 3: " + line, field.group(2).matches("(int|long|short|byte|char|boolean)(\\[\\]){0,2}|String|"
            + "(Token|Law|State)(\\[\\])?|Parser|Book|Past|Painter|Auction|Matching|Seen|Reader"), true);
    }

    private static void face() {
        Check.due("methods of the face", open.size(), 28);
        for (String name : hidden) {
            Check.due("rule 1, the name of a public one: " + name, open.contains(name), false);
        }
    }

    /** Rules 3 to 7, 10: the words and signs that stand in the program. */
    private static void words() {
        String[] refused = {"->", "::", "\\btry\\b", "\\bcatch\\b", "\\bfinally\\b", "\\bsynchronized\\b", "\\bassert\\b",
            "\\binstanceof\\b", "\\bvolatile\\b", "\\btransient\\b", "\\bnative\\b", "\\bvar\\b", "\\bsuper\\b", "\\w+Exact\\b",
            "\\bstatic \\{", "\"\" \\+", "\\+ \"\"", "@\\w+", "\\bimport (?!java\\.util\\.NoSuchElementException;)",
            "\\bthrow (?!new (IndexOutOfBoundsException|NoSuchElementException)\\(\"\"\\);)", "\\bpackage\\b", "\\b(float|double)\\b",
            // Rule 7: an index straight out of a row isn't looked at ahead of its use.
            "\\w\\[[^\\]]*\\["};
        for (String line : lines) {
            for (String word : refused) {
                Check.due("no " + word + " in: " + line, Pattern.compile(word).matcher(line).find(), false);
            }
            Matcher library = Pattern.compile("\\b(Math|System|Long|Integer|Arrays|List)\\.(\\w+)").matcher(line);
            while (library.find()) {
                Check.due("rule 4: " + library.group(), library.group().matches("Math\\.(min|max)|System\\.arraycopy|Long\\.MIN_VALUE"),
                    true);
            }
        }
    }

    private static void sizes() {
        Check.due("rule 11, classes: " + fields.keySet(), fields.size() <= 12, true);
        for (Map.Entry<String, Integer> of : fields.entrySet()) {
            Check.due("rule 11, fields of " + of.getKey() + ": " + of.getValue(), of.getValue() <= 20, true);
        }
        for (Map.Entry<String, List<String>> body : bodies.entrySet()) {
            Check.due("rule 11, lines of " + body.getKey(), body.getValue().size() <= 60, true);
            Check.due("rule 11, parameters of " + body.getKey(), parameters.get(body.getKey()) <= 7, true);
        }
    }

    /** How many calls stand open at most from this one on, itself too; a call within itself is refused. */
    private static int depth(String method, Set<String> above) {
        Integer known = depths.get(method);
        if (known != null) {
            return known;
        }
        Check.due("rule 8, recursion by " + method + " in " + above, above.add(method), true);
        int most = 0;
        String owner = method.substring(0, method.indexOf('.'));
        for (String line : bodies.get(method)) {
            Matcher call = CALL.matcher(line);
            while (call.find()) {
                if (!NO_CALL.contains(call.group(2))) {
                    for (String to : called(owner, call.group(1) != null, call.group(2))) {
                        most = Math.max(most, above.contains(to) ? 99 : depth(to, above));
                    }
                }
            }
        }
        above.remove(method);
        depths.put(method, most + 1);
        return most + 1;
    }

    /** All methods that such a call may mean: of its own class, or behind a dot of any. */
    private static List<String> called(String owner, boolean dotted, String name) {
        List<String> those = new ArrayList<>();
        for (String other : bodies.keySet()) {
            if (other.equals(owner + "." + name) || dotted && other.endsWith("." + name)) {
                those.add(other);
            }
        }
        Check.due("what " + name + " called in " + owner + " means", !those.isEmpty() || LIBRARY_CALLS.contains(name), true);
        return those;
    }
}
