import java.io.IOException;
import java.lang.reflect.Method;
import java.nio.charset.StandardCharsets;
import java.nio.file.Files;
import java.nio.file.Path;
import java.util.regex.Matcher;
import java.util.regex.Pattern;

/** The calls that README.md shows, one behind the other, each with the answer behind it; run in the project's folder. */
public final class ReadmeTest {
    private static final Pattern CALL = Pattern.compile("x\\.(\\w+)\\(([^)]*)\\);\\s*// (-?\\d+|true|false)\\b.*");

    public static void main(String[] args) throws IOException, ReflectiveOperationException {
        FerryLand x = new FerryLand();
        int calls = 0;
        for (String line : Files.readAllLines(Path.of("README.md"), StandardCharsets.UTF_8)) {
            Matcher match = CALL.matcher(line);
            boolean call = match.matches();
            Due.due("a call that can be read: " + line, call, line.startsWith("x."));
            if (call) {
                calls++;
                Object got = method(match.group(1)).invoke(x, values(match.group(2).split(", ")));
                Due.due(line + " (" + got + ")", got.toString().equals(match.group(3)), true);
            }
        }
        Due.due("calls in README.md", calls > 20, true);
        Due.finish("ReadmeTest");
    }

    private static Method method(String name) {
        for (Method method : FerryLand.class.getMethods()) {
            if (method.getName().equals(name)) {
                return method;
            }
        }
        throw new IllegalArgumentException(name);
    }

    private static Object[] values(String[] words) {
        Object[] values = new Object[words.length];
        for (int i = 0; i < words.length; i++) {
            boolean truth = words[i].equals("true") || words[i].equals("false");
            values[i] = truth ? (Object) Boolean.valueOf(words[i]) : (Object) number(words[i]);
        }
        return values;
    }

    private static Integer number(String word) {
        return word.equals("FerryLand.NONE") ? FerryLand.NONE : (int) (long) Long.decode(word);
    }
}
