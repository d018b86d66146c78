import java.io.IOException;
import java.lang.reflect.Method;
import java.nio.file.Files;
import java.nio.file.Path;
import java.util.Set;
import java.util.TreeSet;
import java.util.regex.Matcher;
import java.util.regex.Pattern;

/** README.md's example answers what it says, and leaves no call of the face out. */
public final class ReadmeTest extends LandTest {
    private static final Pattern EXAMPLE = Pattern.compile("(?s)```java\n(.*?)```");
    private static final Pattern TELL = Pattern.compile("tell\\(land, \"([^\"]*)\"\\);");
    private static final Pattern CALL = Pattern.compile("land\\.(\\w+)\\(([-0-9, ]*)\\); +// (-?\\d+)\\b.*");

    public static void main(String[] args) throws IOException, ReflectiveOperationException {
        Matcher example = EXAMPLE.matcher(Files.readString(Path.of("README.md")));
        boolean found = example.find();
        due("README.md has an example", found ? 1 : 0, 1);
        if (found) {
            follow(example.group(1));
        }
        end("the readme's example holds");
    }

    private static void follow(String example) throws ReflectiveOperationException {
        LandDeeds land = new LandDeeds();
        Set<String> left = new TreeSet<>();
        for (Method method : LandDeeds.class.getMethods()) {
            if (method.getDeclaringClass() == LandDeeds.class) {
                left.add(method.getName());
            }
        }
        // The example tells its texts by a function of its own, and that one by say.
        left.remove("say");
        for (String line : example.split("\n")) {
            Matcher tell = TELL.matcher(line);
            Matcher call = CALL.matcher(line);
            if (tell.matches()) {
                tell(land, tell.group(1));
            } else if (call.matches()) {
                left.remove(call.group(1));
                due(line, answer(land, call.group(1), call.group(2)), Long.parseLong(call.group(3)));
            } else {
                due("a call that is not read: " + line, line.startsWith("land.") ? 1 : 0, 0);
            }
        }
        dueText("calls that the example leaves out", left.toString(), "[]");
    }

    private static long answer(LandDeeds land, String name, String told) throws ReflectiveOperationException {
        String[] numbers = told.isEmpty() ? new String[0] : told.split(", *");
        Class<?>[] types = new Class<?>[numbers.length];
        Object[] values = new Object[numbers.length];
        for (int i = 0; i < numbers.length; i++) {
            types[i] = int.class;
            values[i] = Integer.valueOf(numbers[i]);
        }
        return ((Number) LandDeeds.class.getMethod(name, types).invoke(land, values)).longValue();
    }
}
