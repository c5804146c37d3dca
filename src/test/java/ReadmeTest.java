import java.io.IOException;
import java.nio.file.Files;
import java.nio.file.Path;
import java.util.regex.Matcher;
import java.util.regex.Pattern;

/** Each call in the Java parts of README.md answers what stands behind it there. */
public final class ReadmeTest {
    private static final String NEW_OBJECT = "ReactiveTicks x = new ReactiveTicks();";
    private static final Pattern CALL = Pattern.compile("x\\.(\\w+)\\(([^)]*)\\);(?:\\s*// (-?\\w+).*)?");

    public static void main(String[] args) throws IOException, ReflectiveOperationException {
        ReactiveTicks x = null;
        int parts = 0;
        boolean inJava = false;
        for (String line : Files.readAllLines(Path.of("README.md"))) {
            if (line.startsWith("```")) {
                inJava = line.equals("```java");
                parts += inJava ? 1 : 0;
            } else if (inJava && line.equals(NEW_OBJECT)) {
                x = new ReactiveTicks();
            } else if (inJava && !line.isBlank()) {
                dueAsTold(x, line);
            }
        }
        Check.due("there are examples", parts > 0 ? 1 : 0, 1);
        Check.end();
    }

    private static void dueAsTold(ReactiveTicks x, String line) throws ReflectiveOperationException {
        Matcher call = CALL.matcher(line);
        if (!call.matches()) {
            Check.due("is a call: " + line, 0, 1);
            return;
        }
        String[] given = call.group(2).isEmpty() ? new String[0] : call.group(2).split(", ");
        Class<?>[] types = new Class<?>[given.length];
        Object[] values = new Object[given.length];
        for (int i = 0; i < given.length; i++) {
            types[i] = int.class;
            values[i] = number(given[i]);
        }
        Object got = ReactiveTicks.class.getMethod(call.group(1), types).invoke(x, values);
        if (got == null) {
            Check.due("tells no answer: " + line, call.group(3) == null ? 1 : 0, 1);
        } else if (call.group(3) == null) {
            Check.due("tells an answer: " + line, 0, 1);
        } else {
            Check.due(line, (Integer) got, answer(call.group(3)));
        }
    }

    private static int number(String words) {
        String[] shift = words.split(" << ");
        int n = Integer.parseInt(shift[0]);
        return shift.length == 1 ? n : n << Integer.parseInt(shift[1]);
    }

    private static int answer(String word) throws ReflectiveOperationException {
        return word.matches("-?[0-9]+") ? Integer.parseInt(word) : ReactiveTicks.class.getField(word).getInt(null);
    }
}
