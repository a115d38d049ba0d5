import java.io.IOException;
import java.lang.reflect.InvocationTargetException;
import java.lang.reflect.Method;
import java.lang.reflect.Modifier;
import java.nio.file.Files;
import java.nio.file.Path;
import java.util.ArrayList;
import java.util.List;
import java.util.regex.Matcher;
import java.util.regex.Pattern;

/** What README.md says of the calls: its examples answer as it says, and it names each call. */
final class ReadmeTest {
    private static final Pattern TOLD = Pattern.compile("tell\\(x, (\\d), ([-\\w.]+), \"([^\"]*)\"\\);\\s*// (-?\\d+):.*");
    private static final Pattern ASKED = Pattern.compile("x\\.(\\w+)\\(([^()]*)\\);\\s*// (-?\\d+|true|false):.*");
    private static final int EXAMPLES = 22;

    private ReadmeTest() {
    }

    public static void main(String[] args) throws IOException, ReflectiveOperationException {
        List<String> page = Files.readAllLines(Path.of("README.md"));
        examples(page);
        names(String.join("\n", page));
        Check.finish();
    }

    private static void examples(List<String> page) throws IllegalAccessException, InvocationTargetException {
        OneStatement x = new OneStatement();
        int seen = 0;
        for (String line : page) {
            Matcher told = TOLD.matcher(line);
            Matcher asked = ASKED.matcher(line);
            if (told.matches()) {
                int sort = Integer.parseInt(told.group(1));
                Check.due(line, Check.tell(x, sort, number(told.group(2)), told.group(3)), number(told.group(4)));
                seen++;
            } else if (asked.matches()) {
                Check.due(line, answer(x, asked.group(1), asked.group(2)), number(asked.group(3)));
                seen++;
            }
        }
        Check.due("examples seen", seen, EXAMPLES);
    }

    private static long answer(OneStatement x, String name, String listed)
            throws IllegalAccessException, InvocationTargetException {
        String[] numbers = listed.split(", ");
        Method call = named(name);
        List<Object> arguments = new ArrayList<>();
        for (int k = 0; k < numbers.length; k++) {
            boolean flag = call.getParameterTypes()[k] == boolean.class;
            arguments.add(flag ? (Object) Boolean.valueOf(numbers[k]) : (Object) number(numbers[k]));
        }
        Object answered = call.invoke(x, arguments.toArray());
        return answered instanceof Boolean b ? (b ? 1 : 0) : ((Number) answered).longValue();
    }

    private static int number(String written) {
        return switch (written) {
            case "OneStatement.NONE" -> OneStatement.NONE;
            case "true" -> 1;
            case "false" -> 0;
            default -> Integer.parseInt(written);
        };
    }

    private static Method named(String name) {
        for (Method m : OneStatement.class.getDeclaredMethods()) {
            if (m.getName().equals(name) && Modifier.isPublic(m.getModifiers())) {
                return m;
            }
        }
        throw new IllegalArgumentException("README.md has a call that there is not: " + name);
    }

    private static void names(String page) {
        for (Method m : OneStatement.class.getDeclaredMethods()) {
            if (Modifier.isPublic(m.getModifiers())) {
                Check.due("README.md names " + m.getName(), page.contains("`" + m.getName() + "`"), true);
            }
        }
    }
}
