import java.nio.file.Files;
import java.nio.file.Path;
import java.util.List;
import java.util.Set;
import java.util.TreeSet;
import java.util.regex.Matcher;
import java.util.regex.Pattern;

/** What of LANGUAGE.md can be seen in the text of the class; each rule by its number. */
public final class LanguageTest {
    private static final Set<String> LIBRARY = Set.of("Math.max", "Math.min", "Integer.bitCount", "Integer.MAX_VALUE");
    private static final int LONGEST_METHOD = 60;
    private static final int MOST_PARAMETERS = 7;

    private LanguageTest() {
    }

    public static void main(String[] args) throws Exception {
        String whole = Files.readString(Path.of("src/main/java/CoalHoles.java"));
        String code = whole.replaceAll("(?s)/\\*.*?\\*/", "").replaceAll("//[^\n]*", "")
            .replaceAll("\"[^\"\n]*\"", "\"\"").replaceAll("'.'", "' '");
        Check.due("rule 3: signs beyond 127", count(whole, "[^\\x00-\\x7f]"), 0);
        Check.due("no package", count(code, "(?m)^package\\b"), 0);
        Check.due("rule 4: imports", all(code, "(?m)^import ([^;]+);")
            .equals(Set.of("java.util.NoSuchElementException")), true);
        Check.due("rule 4: java by its whole name", count(code, "\\bjavax?\\."), 1);
        Check.due("rule 4: the library", LIBRARY.containsAll(
            all(code, "\\b((?:Math|Integer|Long|System|Arrays|String|List|Character|Boolean)\\.\\w+)")), true);
        Check.due("rule 2: lambdas, references to methods", count(code, "->|::"), 0);
        Check.due("rule 5: static fields that change, static blocks",
            count(code, "static\\s*\\{|static (?!final)\\w+(\\[\\])* \\w+( =|;)"), 0);
        Check.due("rule 6: words that it rules out",
            count(code, "\\b(try|catch|finally|synchronized|assert|equals|hashCode|toString)\\b"), 0);
        Check.due("rule 6: throws", all(code, "\\b(throw [^;]+);")
            .equals(Set.of("throw new NoSuchElementException()")), true);
        Check.due("rule 3: doubles and floats", count(code, "\\b(double|float)\\b"), 0);
        Check.due("rule 13", count(code, "\\b(Random|Thread|Runtime|currentTimeMillis|nanoTime|getenv)\\b"), 0);
        methods(code);
        Check.end();
    }

    /** Methods are short and take little; none but those of the making make objects. */
    private static void methods(String code) {
        List<String> lines = code.lines().toList();
        int seen = 0;
        Pattern head = Pattern.compile("^( {4}| {8})(?:[\\w\\[\\]]+ )+(\\w+)\\(([^)]*)\\).*\\{$|^( {4}| {8})([A-Z]\\w*)\\(\\) \\{$");
        for (int i = 0; i < lines.size(); i++) {
            Matcher m = head.matcher(lines.get(i));
            if (!m.matches() || lines.get(i).contains(" class ")) {
                continue;
            }
            boolean isMaking = m.group(5) != null || "CoalHoles".equals(m.group(2));
            String name = m.group(2) == null ? m.group(5) : m.group(2);
            String end = (m.group(1) == null ? m.group(4) : m.group(1)) + "}";
            int last = i;
            while (last < lines.size() && !lines.get(last).equals(end)) {
                last++;
            }
            seen++;
            String body = String.join("\n", lines.subList(i, last));
            Check.due("rule 11: the length of " + name, last - i < LONGEST_METHOD, true);
            String parameters = m.group(3) == null ? "" : m.group(3);
            Check.due("rule 11: what " + name + " takes", parameters.split(",").length <= MOST_PARAMETERS, true);
            Check.due("rule 12: objects made by " + name,
                isMaking || count(body, "\\bnew (?!NoSuchElementException)") == 0, true);
        }
        Check.due("methods and constructors seen, 30 of the face and more", seen > 60, true);
    }

    private static int count(String code, String pattern) {
        Matcher m = Pattern.compile(pattern).matcher(code);
        int many = 0;
        while (m.find()) {
            many++;
        }
        return many;
    }

    private static Set<String> all(String code, String pattern) {
        Set<String> all = new TreeSet<>();
        Matcher m = Pattern.compile(pattern).matcher(code);
        while (m.find()) {
            all.add(m.group(1));
        }
        return all;
    }
}
