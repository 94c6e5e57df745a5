import java.io.IOException;
import java.nio.file.Files;
import java.nio.file.Path;
import java.util.ArrayList;
import java.util.HashMap;
import java.util.HashSet;
import java.util.List;
import java.util.Map;
import java.util.Set;
import java.util.regex.Matcher;
import java.util.regex.Pattern;

/** Those rules of LANGUAGE.md that can be seen in the text of the class; to be run from the project's folder. */
public final class LanguageTest {
    private static final Path FILE = Path.of("src/main/java/PolicyGate.java");
    private static final Pattern CLASS_HEAD = Pattern.compile(
            "^ *(?:public |private )?(?:static )?final class (\\w+) \\{");
    private static final Pattern METHOD_HEAD = Pattern.compile(
            "^    (?:    )?(?:(?:public |private |static )*(?:int|long|double|boolean|void) )?(\\w+)\\(([^()]*)\\)"
            + "(?:\\s+throws [\\w, ]+)? \\{", Pattern.MULTILINE);
    private static final Pattern CALL = Pattern.compile("(\\w+)\\(");
    private static final Set<String> NO_CALLS = Set.of("if", "for", "while", "switch", "return", "throws");

    /** What the rules leave out, or what a class without texts, lists and catches has no use for. */
    private static final String[] NOT_THERE = {
        "->", "::", "try", "catch", "finally", "synchronized", "assert", "instanceof", "Exact(", "System.", "Thread",
        "Random", "float", "Object", "hashCode", "equals", "toString", "package ", "record ", "static {",
        "while (true)", "for (;", "@", "<", ">",
    };

    private final String text;
    private final Map<String, Set<String>> calls = new HashMap<>();

    private LanguageTest(String itsText) {
        text = itsText;
    }

    public static void main(String[] args) throws IOException {
        String whole = Files.readString(FILE);
        String withoutComments = whole.replaceAll("(?s)/\\*.*?\\*/", "").replaceAll("//[^\n]*", "");
        LanguageTest test = new LanguageTest(withoutComments.replaceAll("\"[^\"\n]*\"", "\"\""));
        test.checkSigns(whole);
        test.checkWords();
        test.checkClasses();
        test.checkMethods();
        test.checkThrows();
        Check.end("LanguageTest");
    }

    private void checkSigns(String whole) {
        Check.same("signs are 1 to 127", whole.chars().allMatch(c -> c >= 1 && c <= 127), true);
    }

    private void checkWords() {
        Check.about("Rules 2 to 7, 9, 10, 12 and 13");
        for (String word : NOT_THERE) {
            boolean isSign = word.equals("<") || word.equals(">");
            // a type's parameter has no blank beside it, a comparison has
            String sought = isSign ? "\\S" + word + "|" + word + "\\S" : Pattern.quote(word);
            String looked = isSign ? text.replaceAll("<<|>>|<=|>=", "") : text;
            Check.same("the text has " + word, Pattern.compile(sought).matcher(looked).find(), false);
        }
        List<String> imports = new ArrayList<>();
        text.lines().filter(line -> line.startsWith("import ")).forEach(imports::add);
        Check.same("imports", String.join(" ", imports), "import java.util.Arrays;");
        Check.about("Rule 4: the library");
        all("(?:Arrays|Math|Integer|Long)\\.\\w+").forEach(used -> Check.same(used + " is left",
                Set.of("Arrays.fill", "Math.max", "Integer.bitCount").contains(used), true));
        Check.about("Rule 5: static fields are final");
        text.lines().filter(line -> line.contains(" static ") && line.endsWith(";")).forEach(line ->
                Check.same(line, line.matches(" +private static final int \\w+ = -?[\\w* ()+]+;"), true));
        Check.about("Rule 12: objects are made in constructors alone");
        text.lines().filter(line -> line.contains("new ") && !line.contains("throw new ")).forEach(line ->
                Check.same(line, line.matches("        (?:private final Row \\w+ = new Row\\([\\w, *()+]+\\);"
                        + "|private final \\w+ \\w+ = new \\w+\\(\\);|\\w+ nothingYet = new \\w+\\(\\);"
                        + "|\\w+ = new View\\(nothingYet\\);|counts = new Row\\(DECISIONS, 0\\);"
                        + "|    cells = new int\\[Math.max\\(length, 0\\)\\];)"), true));
    }

    private List<String> all(String pattern) {
        List<String> found = new ArrayList<>();
        Matcher m = Pattern.compile(pattern).matcher(text);
        while (m.find()) {
            found.add(m.group());
        }
        return found;
    }

    private void checkClasses() {
        Check.about("Rule 11: the file has at most some twelve classes, and a class some twenty fields");
        int classes = 0;
        int fields = 0;
        for (String line : text.split("\n")) {
            if (CLASS_HEAD.matcher(line).find()) {
                classes++;
                fields = 0;
            } else if (line.matches("^    (?:    )?private (?:final )?\\w+(?:\\[\\])? \\w+(?: = [^;]+)?;")) {
                fields++;
                Check.same("fields up to " + line.trim(), fields <= 20, true);
            }
        }
        Check.same("classes found", classes > 1, true);
        Check.same(classes + " classes", classes <= 12, true);
    }

    private void checkMethods() {
        Check.about("Rule 11: a method takes at most seven parameters, methods stay short, calls go eight deep");
        Matcher m = METHOD_HEAD.matcher(text);
        while (m.find()) {
            String name = m.group(1);
            String body = bodyFrom(m.end());
            Check.same(name + " has few parameters", m.group(2).split(",").length <= 7, true);
            Check.same(name + " is short", body.split("\n").length <= 60, true);
            Set<String> called = calls.computeIfAbsent(name, n -> new HashSet<>());
            Matcher c = CALL.matcher(body);
            while (c.find()) {
                called.add(c.group(1));
            }
            called.removeAll(NO_CALLS);
        }
        Check.same("methods found", calls.containsKey("digest") && calls.containsKey("opposedPairs"), true);
        for (String name : calls.keySet()) {
            int depth = depth(name, 1);
            Check.same(name + " goes " + depth + " deep", depth <= 8, true);
        }
    }

    private String bodyFrom(int start) {
        int open = 1;
        int end = start;
        while (open > 0) {
            char sign = text.charAt(end);
            open += sign == '{' ? 1 : sign == '}' ? -1 : 0;
            end++;
        }
        return text.substring(start, end);
    }

    /** Methods of one name count as one, so this is no less than what is so; a circle would go on to far beyond. */
    private int depth(String name, int open) {
        int deepest = open;
        for (String called : calls.getOrDefault(name, Set.of())) {
            if (open < 30 && calls.containsKey(called)) {
                deepest = Math.max(deepest, depth(called, open + 1));
            }
        }
        return deepest;
    }

    private void checkThrows() {
        Check.about("Rule 6: throw new E(\"a written text\")");
        Matcher m = Pattern.compile("\\bthrow\\b[^;]*;").matcher(text);
        int found = 0;
        while (m.find()) {
            found++;
            Check.same(m.group(), m.group().matches("throw new (?:IllegalState|IllegalArgument|IndexOutOfBounds)"
                    + "Exception\\(\"\"\\);"), true);
        }
        Check.same("throws", found, 3);
    }
}
