import java.io.IOException;
import java.lang.reflect.Method;
import java.nio.file.Files;
import java.nio.file.Path;
import java.util.regex.Matcher;
import java.util.regex.Pattern;

/** Makes the calls of README.md's example; a comment that begins with a number says the answer that is due. */
public final class ReadmeTest {
    private static final Pattern CALL = Pattern.compile("s\\.(\\w+)\\(([-0-9, ]*)\\); *// *(-?\\d+)?.*");

    public static void main(String[] args) throws IOException, ReflectiveOperationException {
        Checks checks = new Checks();
        FlatSolver solver = new FlatSolver();
        int answers = 0;
        for (String line : Files.readAllLines(Path.of("README.md"))) {
            Matcher call = CALL.matcher(line);
            if (!call.matches()) {
                checks.holds("that this test can read the call: " + line, !line.startsWith("s."));
                continue;
            }
            Object got = invoke(solver, call.group(1), call.group(2));
            if (call.group(3) != null) {
                answers++;
                checks.due("README.md: " + line, (Integer) got, Long.parseLong(call.group(3)));
            }
        }
        checks.holds("that README.md tells answers", answers > 0);
        checks.end();
    }

    private static Object invoke(FlatSolver solver, String name, String list) throws ReflectiveOperationException {
        String[] words = list.isBlank() ? new String[0] : list.split(",");
        Object[] numbers = new Object[words.length];
        Class<?>[] types = new Class<?>[words.length];
        for (int i = 0; i < words.length; i++) {
            numbers[i] = Integer.valueOf(words[i].trim());
            types[i] = int.class;
        }
        Method method = FlatSolver.class.getMethod(name, types);
        return method.invoke(solver, numbers);
    }
}
