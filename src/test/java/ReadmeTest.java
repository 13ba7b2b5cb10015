import java.io.IOException;
import java.lang.reflect.InvocationTargetException;
import java.lang.reflect.Method;
import java.nio.file.Files;
import java.nio.file.Path;
import java.util.Map;
import java.util.TreeMap;
import java.util.regex.Matcher;
import java.util.regex.Pattern;

/** The calls that README.md shows answer what stands behind them there. */
public final class ReadmeTest {
    private static final Checks CHECKS = new Checks();
    private static final Path README = Path.of("README.md");
    private static final String START = "```java\nSpoolwrightYard yard = new SpoolwrightYard();\n";
    private static final Pattern LINE = Pattern.compile("(?:int (\\w+) = )?yard\\.(\\w+)\\((.*)\\); +// (.+)");

    private final SpoolwrightYard yard = new SpoolwrightYard();
    private final Map<String, Object> named = new TreeMap<>();

    public static void main(String[] args) throws IOException {
        String text = Files.readString(README);
        int start = text.indexOf(START);
        CHECKS.due("README.md has an example", start >= 0, true);
        if (start >= 0) {
            String example = text.substring(start + START.length(), text.indexOf("```", start + START.length()));
            new ReadmeTest().make(example);
        }
        CHECKS.end();
    }

    private void make(String example) {
        for (String line : example.split("\n")) {
            Matcher parts = LINE.matcher(line);
            CHECKS.due("README.md: " + line + " is a call with its answer", parts.matches(), true);
            if (parts.matches()) {
                Object got = call(parts.group(2), parts.group(3));
                CHECKS.due("README.md: " + line, got, valueOf(parts.group(4)));
                if (parts.group(1) != null) {
                    named.put(parts.group(1), got);
                }
            }
        }
    }

    private Object call(String name, String list) {
        String[] texts = list.isEmpty() ? new String[0] : list.split(", ");
        Object[] arguments = new Object[texts.length];
        for (int i = 0; i < texts.length; i++) {
            arguments[i] = valueOf(texts[i]);
        }
        try {
            return methodOf(name).invoke(yard, arguments);
        } catch (InvocationTargetException e) {
            return e.getCause();
        } catch (IllegalAccessException e) {
            throw new IllegalStateException(e);
        }
    }

    private static Method methodOf(String name) {
        for (Method method : SpoolwrightYard.class.getMethods()) {
            if (method.getName().equals(name)) {
                return method;
            }
        }
        throw new IllegalStateException("README.md calls " + name);
    }

    private Object valueOf(String text) {
        if (named.containsKey(text)) {
            return named.get(text);
        }
        if (text.equals("true") || text.equals("false")) {
            return text.equals("true");
        }
        if (text.startsWith("'")) {
            return text.charAt(1);
        }
        return Integer.valueOf(text);
    }
}
