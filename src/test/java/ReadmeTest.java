import java.io.IOException;
import java.lang.reflect.Method;
import java.nio.file.Files;
import java.nio.file.Path;
import java.util.List;
import java.util.regex.Matcher;
import java.util.regex.Pattern;

/** The calls in README.md's example answer what the text behind them begins with, on one object and in their order. */
public final class ReadmeTest {
    private static final Pattern ROW = Pattern.compile("x\\.(\\w+)\\((.*)\\); +// (true|false|-?\\d+)(:.*)?");

    public static void main(String[] args) throws IOException, ReflectiveOperationException {
        String text = Files.readString(Path.of("README.md"));
        String example = between(text, "```java\n", "```");
        StackBytes x = new StackBytes();
        int calls = 0;
        for (String row : example.split("\n")) {
            Matcher found = ROW.matcher(row);
            if (found.matches()) {
                calls++;
                Check.due(row, String.valueOf(call(x, found.group(1), found.group(2))).equals(found.group(3)), true);
            } else {
                Check.due("a call with its answer: " + row, row.equals("StackBytes x = new StackBytes();"), true);
            }
        }
        Check.due("the example has calls", calls > 0, true);
        for (Method method : StackBytes.class.getDeclaredMethods()) {
            Check.due("told: " + method.getName(), text.contains("`" + method.getName() + "("), true);
        }
        Check.end();
    }

    private static String between(String text, String start, String end) {
        int from = text.indexOf(start) + start.length();
        return text.substring(from, text.indexOf(end, from));
    }

    private static Object call(StackBytes x, String name, String given) throws ReflectiveOperationException {
        for (Method method : StackBytes.class.getDeclaredMethods()) {
            if (method.getName().equals(name)) {
                return method.invoke(x, arguments(method.getParameterTypes(), given));
            }
        }
        return "no such call";
    }

    private static Object[] arguments(Class<?>[] types, String given) {
        List<String> words = given.isEmpty() ? List.of() : List.of(given.split(", "));
        Object[] made = new Object[types.length];
        for (int k = 0; k < types.length; k++) {
            made[k] = argument(types[k], words.get(k));
        }
        return made;
    }

    private static Object argument(Class<?> type, String word) {
        if (type == boolean.class) {
            return Boolean.valueOf(word);
        }
        long value = Long.decode(word.replace("L", ""));
        return type == long.class ? (Object) value : (Object) Math.toIntExact(value);
    }
}
