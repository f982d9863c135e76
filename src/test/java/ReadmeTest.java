import java.lang.reflect.Method;
import java.lang.reflect.Modifier;
import java.nio.file.Files;
import java.nio.file.Path;
import java.util.regex.Matcher;
import java.util.regex.Pattern;
import java.util.stream.Stream;

/** What README.md shows is so: each answer behind a call, each stair; and it names every call and every test. */
public final class ReadmeTest {
    private static final Due due = new Due("ReadmeTest");
    private static final Pattern CALL = Pattern.compile("x\\.(\\w+)\\((.*?)\\); +// (-?\\w+):.*");

    public static void main(String[] args) throws Exception {
        String page = Files.readString(Path.of("README.md"));
        calls(page);
        stairs(page);
        names(page);
        due.end();
    }

    private static void calls(String page) throws Exception {
        StairWays x = new StairWays();
        int called = 0;
        for (String line : page.split("\n")) {
            Matcher call = CALL.matcher(line);
            if (call.matches()) {
                called++;
                due.is(line, true, call.group(3).equals(answer(x, call.group(1), call.group(2))));
            }
        }
        due.is("calls shown", true, called >= 15);
    }

    private static String answer(StairWays x, String name, String inputs) throws Exception {
        String[] texts = inputs.isEmpty() ? new String[0] : inputs.split(", ");
        for (Method method : StairWays.class.getMethods()) {
            if (method.getName().equals(name) && method.getParameterCount() == texts.length) {
                Object[] values = new Object[texts.length];
                for (int i = 0; i < texts.length; i++) {
                    values[i] = value(method.getParameterTypes()[i], texts[i]);
                }
                return String.valueOf(method.invoke(x, values));
            }
        }
        return "no such call";
    }

    private static Object value(Class<?> type, String text) {
        if (type == boolean.class) {
            return Boolean.valueOf(text);
        }
        long number = Long.decode(text.replace("L", ""));
        if (type == int.class) {
            return (int) number;
        }
        return number;
    }

    private static void stairs(String page) {
        String[] parts = page.split("```");
        int shown = 0;
        for (String part : parts) {
            if (part.startsWith("text\n")) {
                shown++;
                StairWays x = new StairWays();
                due.is("the stair shown", 0, Due.read(x, part.substring(5)));
                due.is("there is a way up it", true, x.many() > 0);
            }
        }
        due.is("stairs shown", 1, shown);
    }

    private static void names(String page) throws Exception {
        for (Method method : StairWays.class.getDeclaredMethods()) {
            if (Modifier.isPublic(method.getModifiers())) {
                due.is("it names " + method.getName(), true, page.contains("`" + method.getName() + "`"));
            }
        }
        try (Stream<Path> files = Files.list(Path.of("src/test/java"))) {
            for (Path file : files.toList()) {
                String name = file.getFileName().toString().replace(".java", "");
                due.is("it names " + name, true, !name.endsWith("Test") || page.contains("| `" + name + "` |"));
            }
        }
    }
}
