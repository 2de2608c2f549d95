import java.lang.reflect.Method;
import java.lang.reflect.Modifier;
import java.nio.file.Files;
import java.nio.file.Path;
import java.util.Arrays;
import java.util.HashMap;
import java.util.Map;
import java.util.regex.Matcher;
import java.util.regex.Pattern;

/** README.md's example answers what README.md says, and every call of the face is told there. */
public final class ReadmeTest {
    private static final Pattern EXAMPLE = Pattern.compile("(?s)```java\\n(.*?)```");
    private static final Pattern CALL =
            Pattern.compile("(?:int (\\w+) = )?x\\.(\\w+)\\((.*?)\\);\\s*// (-?\\w+)(?::.*)?");
    private static final String NEW_OBJECT = "SequenceMatch x = new SequenceMatch();";

    private final Check check;
    private final SequenceMatch x = new SequenceMatch();
    private final Map<String, Integer> variables = new HashMap<>();

    private ReadmeTest(Check check) {
        this.check = check;
    }

    public static void main(String[] args) throws Exception {
        Check check = new Check("ReadmeTest");
        String readme = Files.readString(Path.of("README.md"));
        Matcher example = EXAMPLE.matcher(readme);
        check.same("there is an example", true, example.find());
        new ReadmeTest(check).follow(example.group(1));
        everyCallIsTold(check, readme);
        check.end();
    }

    private void follow(String example) throws Exception {
        for (String line : example.split("\n")) {
            Matcher call = CALL.matcher(line);
            if (call.matches()) {
                ask(call.group(1), call.group(2), call.group(3), call.group(4));
            } else {
                // A line that isn't understood would otherwise never be asked.
                check.same("line '" + line + "'", true, line.isBlank() || line.equals(NEW_OBJECT));
            }
        }
    }

    private void ask(String variable, String name, String arguments, String due) throws Exception {
        Object[] values = Arrays.stream(arguments.split(", "))
                .filter(a -> !a.isEmpty())
                .map(a -> variables.containsKey(a) ? variables.get(a) : Integer.valueOf(a))
                .toArray();
        Class<?>[] types = new Class<?>[values.length];
        Arrays.fill(types, int.class);
        Object got = SequenceMatch.class.getMethod(name, types).invoke(x, values);
        check.same(name + "(" + arguments + ")", due, got.toString());
        if (variable != null) {
            variables.put(variable, (Integer) got);
        }
    }

    private static void everyCallIsTold(Check check, String readme) {
        for (Method method : SequenceMatch.class.getDeclaredMethods()) {
            if (Modifier.isPublic(method.getModifiers())) {
                String call = method.getName() + "(";
                check.same(call + " stands in the table", true, readme.contains("`" + call));
                check.same(call + " stands in the example", true, readme.contains("x." + call));
            }
        }
    }
}
