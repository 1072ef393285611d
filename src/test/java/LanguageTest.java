import java.io.IOException;
import java.nio.file.Files;
import java.nio.file.Path;
import java.util.LinkedHashMap;
import java.util.Map;
import java.util.Set;
import java.util.regex.Matcher;
import java.util.regex.Pattern;

/** Those rules of ../shared/LANGUAGE.md that can be seen in the text of the class. */
public final class LanguageTest {
    private static final Path SOURCE = Path.of("src/main/java/FlatSolver.java");
    private static final Checks CHECKS = new Checks();

    private static final Pattern FORBIDDEN = Pattern.compile("\\b(package|import|interface|enum|record|float|double"
            + "|String|Math|Integer|Long|System|Arrays|Object|null|this|super|throw|throws|try|catch|finally"
            + "|synchronized|assert|instanceof|var|protected)\\b|->|::|\"|@");
    private static final Pattern ARRAY_FIELD = Pattern.compile(
            " {4}private final (\\w+)\\[\\] \\w+ = new \\1\\[(?:[A-Z_]+|[1-9]\\d*)\\];");
    private static final Pattern STATIC_FIELD = Pattern.compile(
            " {4}private static final (?:int|long) [A-Z_]+ = [^;]+;");
    private static final Pattern FIELD = Pattern.compile(
            " {4}private (?:final )?(?:int|long|short|byte|char|boolean)(?:\\[\\])? \\w+(?: =.*)?;");
    private static final Pattern METHOD = Pattern.compile(" {4}(public|private) .*?(\\w+)\\(([^)]*)\\) \\{");
    private static final Pattern CALL = Pattern.compile("\\b(\\w+)\\(");
    private static final Pattern CALL_IN_CALL = Pattern.compile("\\w\\([^(){};]*\\w\\(");

    public static void main(String[] args) throws IOException {
        String text = Files.readString(SOURCE).replaceAll("//.*", "").replaceAll("(?s)/\\*.*?\\*/", "");
        Map<String, String> bodies = new LinkedHashMap<>();
        readMembers(text, bodies);
        Matcher forbidden = FORBIDDEN.matcher(text);
        while (forbidden.find()) {
            CHECKS.holds("rules 2, 3, 6: that " + forbidden.group() + " is not used", false);
        }
        CHECKS.holds("rule 10: that no call stands in another's arguments", !CALL_IN_CALL.matcher(text).find());
        for (String name : bodies.keySet()) {
            int deep = callsDeep(name, bodies, 7);
            CHECKS.holds("rules 8, 10: that calls from " + name + " go at most six deep", deep <= 6);
        }
        CHECKS.holds("that the methods were found", bodies.keySet().containsAll(Set.of("FlatSolver", "greatest")));
        CHECKS.end();
    }

    /** Every line that begins a member is one of the kinds allowed; the bodies of methods are kept. */
    private static void readMembers(String text, Map<String, String> bodies) {
        int fields = 0;
        String name = "";
        for (String line : text.split("\n")) {
            Matcher method = METHOD.matcher(line);
            boolean makes = line.matches(".*\\bnew\\b.*");
            CHECKS.holds("rule 4: that this makes an array once: " + line,
                    !makes || ARRAY_FIELD.matcher(line).matches());
            if (method.matches()) {
                name = method.group(2);
                CHECKS.holds("rule 1: that only one method is named " + name, !bodies.containsKey(name));
                CHECKS.holds("rule 10: at most seven parameters of " + name, method.group(3).split(",").length <= 7);
                bodies.put(name, "");
            } else if (line.matches(" {4}\\w.*")) {
                boolean constant = STATIC_FIELD.matcher(line).matches();
                fields += constant ? 0 : 1;
                CHECKS.holds("rules 1, 2, 5: a field like " + line, constant || FIELD.matcher(line).matches());
            } else if (!name.isEmpty()) {
                bodies.merge(name, line + "\n", String::concat);
            }
        }
        CHECKS.holds("rule 10: at most some forty fields", fields <= 40);
        bodies.forEach((each, body) -> CHECKS.holds("rule 10: that " + each + " is short",
                body.lines().count() <= 60));
    }

    /** Stops at the limit, which a recursion reaches and nothing else may. */
    private static int callsDeep(String name, Map<String, String> bodies, int limit) {
        int deepest = 0;
        Matcher call = CALL.matcher(bodies.get(name));
        while (limit > 1 && call.find()) {
            if (bodies.containsKey(call.group(1))) {
                deepest = Math.max(deepest, callsDeep(call.group(1), bodies, limit - 1));
            } else {
                CHECKS.holds("rule 3: that " + call.group(1) + " is a method of the class", false);
            }
        }
        return deepest + 1;
    }
}
