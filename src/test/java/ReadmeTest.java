import java.lang.reflect.Method;
import java.lang.reflect.Modifier;
import java.nio.file.Files;
import java.nio.file.Path;
import java.util.regex.Matcher;
import java.util.regex.Pattern;

/** README.md tells the truth: its example answers as it says, and each call of the face stands in it. */
public final class ReadmeTest {
    private static final Pattern BLOCK = Pattern.compile("(?s)```java\n(.*?)```");
    private static final Pattern TEXT = Pattern.compile("String text = \"([^\"]*)\";");
    private static final Pattern CALL = Pattern.compile("(?m)^x\\.(\\w+)\\(([-\\d, ]*)\\); *// (-?\\d+)");

    public static void main(String[] args) throws Exception {
        String readme = Files.readString(Path.of("README.md"));
        Matcher block = BLOCK.matcher(readme);
        Check.holds("an example", block.find());
        example(block.group(1));
        calls(readme.substring(block.end()));
        Check.finish();
    }

    private static void example(String code) throws Exception {
        Matcher text = TEXT.matcher(code);
        Check.holds("a text", text.find());
        WatchDogs x = new WatchDogs();
        Check.feed(x, text.group(1));
        Matcher call = CALL.matcher(code);
        int answers = 0;
        while (call.find()) {
            answers++;
            Check.due("README: " + call.group(1) + "(" + call.group(2) + ")", ask(x, call.group(1), call.group(2)),
                Long.parseLong(call.group(3)));
        }
        Check.due("README: all rows of the example were read", answers, code.split("\nx\\.").length - 1);
        Check.holds("README: rows with answers", answers > 10);
    }

    private static long ask(WatchDogs x, String name, String numbers) throws Exception {
        String[] parts = numbers.isBlank() ? new String[0] : numbers.split(", *");
        Class<?>[] types = new Class<?>[parts.length];
        Object[] values = new Object[parts.length];
        for (int i = 0; i < parts.length; i++) {
            types[i] = int.class;
            values[i] = Integer.valueOf(parts[i].trim());
        }
        return ((Number) WatchDogs.class.getMethod(name, types).invoke(x, values)).longValue();
    }

    private static void calls(String tables) {
        for (Method m : WatchDogs.class.getDeclaredMethods()) {
            if (Modifier.isPublic(m.getModifiers())) {
                String names = m.getParameterCount() == 0 ? "" : "\\w+(, \\w+){" + (m.getParameterCount() - 1) + "}";
                Check.holds("README: " + m, Pattern.compile("`" + m.getName() + "\\(" + names + "\\)`").matcher(tables).find());
            }
        }
    }
}
