import java.lang.reflect.Method;
import java.nio.file.Files;
import java.nio.file.Path;
import java.util.HashSet;
import java.util.Set;
import java.util.regex.Matcher;
import java.util.regex.Pattern;

/** The calls in README.md answer as it says, and it names every call of the class. Run in the project's directory. */
public final class ReadmeTest extends Due {
    private static final Pattern CALL = Pattern.compile("x\\.(\\w+)\\(([^)]*)\\); +// (-?\\d+).*");

    private static Object argument(Class<?> type, String text) {
        if (type == boolean.class) return text.equals("true");
        long number = Long.decode(text.replace("L", ""));
        if (type == long.class) return number;
        return (int) number;
    }

    private static long answer(BurnedDown x, String name, String[] texts) throws Exception {
        for (Method m : BurnedDown.class.getMethods()) {
            if (!m.getName().equals(name)) continue;
            Object[] arguments = new Object[m.getParameterCount()];
            for (int i = 0; i < arguments.length; i++) arguments[i] = argument(m.getParameterTypes()[i], texts[i]);
            return ((Number) m.invoke(x, arguments)).longValue();
        }
        throw new IllegalArgumentException(name);
    }

    private static void examples(String text) throws Exception {
        says("README.md");
        BurnedDown x = null;
        boolean code = false;
        for (String line : text.split("\n")) {
            if (line.startsWith("```")) code = line.equals("```java");
            if (!code || line.startsWith("```") || line.isEmpty()) continue;
            if (line.startsWith("BurnedDown x = ")) {
                x = new BurnedDown();
                continue;
            }
            Matcher m = CALL.matcher(line);
            due("a call and its answer stand in: " + line, m.matches() ? 1 : 0, 1);
            if (m.matches()) {
                String[] texts = m.group(2).isEmpty() ? new String[0] : m.group(2).split(", ");
                due(line, answer(x, m.group(1), texts), Long.parseLong(m.group(3)));
            }
        }
    }

    private static void names(String text) {
        says("README.md names each call");
        Set<String> names = new HashSet<>();
        for (Method m : BurnedDown.class.getDeclaredMethods()) {
            if (java.lang.reflect.Modifier.isPublic(m.getModifiers())) names.add(m.getName());
        }
        for (String name : names) due(name, text.contains("`" + name + "`") ? 1 : 0, 1);
    }

    public static void main(String[] args) throws Exception {
        String text = Files.readString(Path.of("README.md"));
        examples(text);
        names(text);
        end("ReadmeTest");
    }
}
