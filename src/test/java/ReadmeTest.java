import java.io.IOException;
import java.io.UncheckedIOException;
import java.lang.reflect.InvocationTargetException;
import java.lang.reflect.Method;
import java.lang.reflect.Modifier;
import java.nio.charset.StandardCharsets;
import java.nio.file.Files;
import java.nio.file.Path;
import java.util.List;
import java.util.Set;
import java.util.TreeSet;
import java.util.regex.Matcher;
import java.util.regex.Pattern;

/** The calls on the page README.md, in their order, answer what stands behind them there. */
final class ReadmeTest {
    private static final Path PAGE = Path.of("README.md");
    private static final Pattern MADE = Pattern.compile("DyeVats vats = new DyeVats\\(\\);");
    private static final Pattern TYPED = Pattern.compile("for \\(char sign : \"([^\"]+)\".toCharArray\\(\\)\\) \\{ vats.append\\(sign\\); \\}");
    private static final Pattern CALL = Pattern.compile("vats\\.(\\w+)\\(([\\d, ]*)\\); +// (throws \\w+|-?[\\d.]+|a hash).*");

    private DyeVats vats = null;
    private final Set<String> shown = new TreeSet<>();

    private ReadmeTest() { }

    static void run() {
        Check.test("README.md: each call answers what stands behind it", () -> new ReadmeTest().calls());
    }

    private void calls() {
        boolean isCode = false;
        for (String line : lines()) {
            if (line.startsWith("```")) {
                isCode = line.equals("```java");
            } else if (isCode) {
                follow(line);
            }
        }
        for (Method method : DyeVats.class.getDeclaredMethods()) {
            if (Modifier.isPublic(method.getModifiers())) {
                Check.due(method.getName() + " is shown", 1, shown.contains(method.getName()) ? 1 : 0);
            }
        }
    }

    /** A line that is none of these would stand there without a test. */
    private void follow(String line) {
        Matcher typed = TYPED.matcher(line);
        Matcher call = CALL.matcher(line);
        if (MADE.matcher(line).matches()) {
            vats = new DyeVats();
        } else if (typed.matches()) {
            shown.add("append");
            TextsTest.type(vats, typed.group(1));
        } else if (call.matches()) {
            shown.add(call.group(1));
            String got = answer(call.group(1), call.group(2));
            if (!call.group(3).equals("a hash")) {
                Check.dueText(line, call.group(3), got);
            }
        } else {
            throw new AssertionError("no call: " + line);
        }
    }

    private String answer(String name, String arguments) {
        String[] texts = arguments.isEmpty() ? new String[0] : arguments.split(", ");
        Object[] numbers = new Object[texts.length];
        for (int i = 0; i < texts.length; i++) {
            numbers[i] = Integer.valueOf(texts[i]);
        }
        for (Method method : DyeVats.class.getMethods()) {
            if (method.getName().equals(name) && method.getParameterCount() == numbers.length) {
                return answer(method, numbers);
            }
        }
        throw new AssertionError("no such method: " + name);
    }

    private String answer(Method method, Object[] numbers) {
        try {
            return method.invoke(vats, numbers).toString();
        } catch (InvocationTargetException e) {
            return "throws " + e.getCause().getClass().getSimpleName();
        } catch (IllegalAccessException e) {
            throw new AssertionError(e);
        }
    }

    private static List<String> lines() {
        try {
            return Files.readAllLines(PAGE, StandardCharsets.UTF_8);
        } catch (IOException e) {
            throw new UncheckedIOException(e);
        }
    }
}
