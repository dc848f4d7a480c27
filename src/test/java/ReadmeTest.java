import java.io.IOException;
import java.lang.reflect.Method;
import java.nio.file.Files;
import java.nio.file.Path;
import java.util.regex.Matcher;
import java.util.regex.Pattern;

/** The examples of README.md: each call that is written there, with the answer behind it (true if there is none). */
public final class ReadmeTest {
    private static final String NEW = "LevelMachine x = new LevelMachine();";
    private static final Pattern CALL = Pattern.compile("x\\.(\\w+)\\((.*?)\\); *// (?:answers (\\w+))?.*");

    private static LevelMachine x;

    public static void main(String[] args) throws ReflectiveOperationException, IOException {
        int calls = 0;
        for (String line : Files.readAllLines(Path.of("README.md"))) {
            Matcher call = CALL.matcher(line.contains("//") ? line : line + " // ");
            if (line.equals(NEW)) {
                x = new LevelMachine();
            } else if (call.matches()) {
                calls++;
                String due = call.group(3) == null ? "true" : call.group(3);
                Rig.due(line + " (1 is as written)", answer(call.group(1), call.group(2)).equals(due), true);
            }
        }
        Rig.due("the examples have calls", calls > 0, true);
        Rig.finish();
    }

    private static String answer(String name, String list) throws ReflectiveOperationException {
        String[] texts = list.isEmpty() ? new String[0] : list.split(", ");
        Object[] values = new Object[texts.length];
        for (int i = 0; i < texts.length; i++) {
            values[i] = texts[i].equals("true") ? (Object) true : Integer.valueOf(texts[i]);
        }
        return method(name).invoke(x, values).toString();
    }

    private static Method method(String name) throws NoSuchMethodException {
        for (Method method : LevelMachine.class.getMethods()) {
            if (method.getName().equals(name)) {
                return method;
            }
        }
        throw new NoSuchMethodException(name);
    }
}
