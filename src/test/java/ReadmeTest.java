import java.lang.reflect.Field;
import java.lang.reflect.Method;
import java.lang.reflect.Modifier;
import java.nio.file.Files;
import java.nio.file.Path;
import java.util.List;
import java.util.regex.Matcher;
import java.util.regex.Pattern;

/** README.md tells the truth: its example is run, and its tables are held against the class's face. */
public final class ReadmeTest {
    private static final Pattern CALL =
        Pattern.compile("room\\.(\\w+)\\(([^)]*)\\);\\s*// .*: (-?\\d+|[A-Z]+)");
    private static final Pattern ANY_CALL = Pattern.compile("room\\..*");

    public static void main(String[] args) throws Exception {
        List<String> lines = Files.readAllLines(Path.of("README.md"));
        example(lines);
        calls(lines);
        answers(lines);
        Check.end();
    }

    private static void example(List<String> lines) throws Exception {
        RoomFederation room = new RoomFederation();
        int made = 0;
        for (String line : lines) {
            Matcher call = CALL.matcher(line);
            if (call.matches()) {
                Check.due(line, answerOf(room, call.group(1), call.group(2)), numberOf(call.group(3)));
                made++;
            } else if (ANY_CALL.matcher(line).matches()) {
                Check.due("tells its answer: " + line, 0, 1);
            }
        }
        Check.due("the example makes calls", made > 0 ? 1 : 0, 1);
    }

    private static int answerOf(RoomFederation room, String name, String listed) throws Exception {
        String[] texts = listed.isEmpty() ? new String[0] : listed.split(", ");
        Object[] values = new Object[texts.length];
        Class<?>[] types = new Class<?>[texts.length];
        for (int i = 0; i < texts.length; i++) {
            values[i] = Integer.valueOf(texts[i]);
            types[i] = int.class;
        }
        return (Integer) RoomFederation.class.getMethod(name, types).invoke(room, values);
    }

    private static int numberOf(String answer) throws Exception {
        return Character.isUpperCase(answer.charAt(0))
            ? RoomFederation.class.getField(answer).getInt(null) : Integer.parseInt(answer);
    }

    private static void calls(List<String> lines) {
        for (Method method : RoomFederation.class.getDeclaredMethods()) {
            if (Modifier.isPublic(method.getModifiers())) {
                int size = method.getParameterCount();
                String names = size == 0 ? "" : "\\w+(, \\w+){" + (size - 1) + "}";
                row(lines, "\\| `" + method.getName() + "\\(" + names + "\\)` \\| .+ \\|");
            }
        }
    }

    private static void answers(List<String> lines) throws Exception {
        for (Field field : RoomFederation.class.getFields()) {
            row(lines, "\\| `" + field.getName() + "` \\| " + field.getInt(null) + " \\| .+ \\|");
        }
    }

    private static void row(List<String> lines, String pattern) {
        long found = lines.stream().filter(line -> line.matches(pattern)).count();
        Check.due("README.md has one row " + pattern, found, 1);
    }
}
