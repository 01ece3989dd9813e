import java.lang.reflect.Method;
import java.nio.file.Files;
import java.nio.file.Path;
import java.util.regex.Matcher;
import java.util.regex.Pattern;

/** The example of README.md: each call in its java blocks is made, and answers what stands behind it. */
public final class ReadmeTest {
    private static final Pattern BLOCK = Pattern.compile("```java\n(.*?)```", Pattern.DOTALL);
    private static final Pattern FEED = Pattern.compile("feed\\(x, \"(.*)\"\\); +// (\\w+): .*");
    private static final Pattern CALL = Pattern.compile("x\\.(\\w+)\\((.*?)\\); +// (-?\\w+): .*");

    private static LanternHall x = null;

    public static void main(String[] args) throws Exception {
        String root = System.getenv("LANTERN_ROOT");
        String text = Files.readString(Path.of(root == null ? "." : root, "README.md"));
        Matcher blocks = BLOCK.matcher(text);
        int lines = 0;
        while (blocks.find()) {
            for (String line : blocks.group(1).split("\n")) {
                if (!line.isBlank()) {
                    follow(line.trim());
                    lines++;
                }
            }
        }
        Check.same("README.md has an example", lines > 10, true);
        Check.end("ReadmeTest");
    }

    private static void follow(String line) throws Exception {
        Matcher feed = FEED.matcher(line);
        Matcher call = CALL.matcher(line);
        if (line.equals("LanternHall x = new LanternHall();")) {
            x = new LanternHall();
        } else if (feed.matches()) {
            Check.same(line, Integer.toString(Check.feed(x, feed.group(1))), feed.group(2));
        } else if (call.matches()) {
            Check.same(line, answer(call.group(1), call.group(2)), call.group(3));
        } else {
            Check.same("a line of README.md that is no call", line, "");
        }
    }

    private static String answer(String name, String told) throws Exception {
        String[] given = told.isEmpty() ? new String[0] : told.split(", *");
        for (Method m : LanternHall.class.getMethods()) {
            if (m.getName().equals(name) && m.getParameterCount() == given.length) {
                Object[] values = new Object[given.length];
                for (int i = 0; i < given.length; i++) {
                    values[i] = value(m.getParameterTypes()[i], given[i]);
                }
                return String.valueOf(m.invoke(x, values));
            }
        }
        return "no such call";
    }

    private static Object value(Class<?> type, String told) {
        if (type == boolean.class) {
            return Boolean.valueOf(told);
        }
        return type == long.class ? (Object) Long.decode(told.replace("L", "")) : (Object) Integer.decode(told);
    }
}
