import java.io.IOException;
import java.lang.reflect.Method;
import java.nio.file.Files;
import java.nio.file.Path;
import java.util.regex.Matcher;
import java.util.regex.Pattern;

/** Makes the calls of the example in README.md, and compares the answers told beside them. */
public final class ReadmeTest {
    private static final Check CHECK = new Check();
    private static final Pattern CALL =
        Pattern.compile("doors\\.(\\w+)\\(([^)]*)\\); +// (-?[0-9.]+)(:.*)?");

    public static void main(String[] args) throws IOException, ReflectiveOperationException {
        CordDoors doors = new CordDoors();
        int calls = 0;
        for (String line : Files.readAllLines(Path.of("README.md"))) {
            Matcher matcher = CALL.matcher(line);
            if (matcher.matches()) {
                calls++;
                String told = matcher.group(3);
                String answer = answerOf(doors, matcher.group(1), matcher.group(2));
                CHECK.holds(line + " (answered " + answer + ")", answer.equals(told));
            } else {
                CHECK.holds("this call tells its answer: " + line, !line.startsWith("doors."));
            }
        }
        CHECK.holds("the example is found", calls > 10);
        CHECK.end("ReadmeTest");
    }

    private static String answerOf(CordDoors doors, String name, String arguments)
            throws ReflectiveOperationException {
        String[] texts = arguments.isEmpty() ? new String[0] : arguments.split(", ");
        for (Method method : CordDoors.class.getMethods()) {
            if (method.getName().equals(name) && method.getParameterCount() == texts.length) {
                Object[] values = new Object[texts.length];
                for (int place = 0; place < texts.length; place++) {
                    values[place] = valueOf(texts[place]);
                }
                return String.valueOf(method.invoke(doors, values));
            }
        }
        return "no such call";
    }

    private static Object valueOf(String text) {
        if (text.startsWith("'")) {
            return (int) text.charAt(1);
        }
        if (text.equals("true") || text.equals("false")) {
            return Boolean.valueOf(text);
        }
        return Integer.valueOf(text);
    }
}
