import java.io.IOException;
import java.lang.reflect.InvocationTargetException;
import java.lang.reflect.Method;
import java.nio.charset.StandardCharsets;
import java.nio.file.Files;
import java.nio.file.Path;
import java.util.regex.Matcher;
import java.util.regex.Pattern;

/** The example of README.md: each call there answers what stands behind it. */
public final class ReadmeTest {
    private static final Checks CHECKS = new Checks();
    private static final Pattern CALL = Pattern.compile("x\\.(\\w+)\\(([-0-9, ]*)\\); +// (-?[0-9]+): .+");
    private static final Pattern TEXT = Pattern.compile("write\\(x, \"([^\"]*)\"\\);");

    public static void main(String[] args) throws IOException, ReflectiveOperationException {
        String readme = Files.readString(Path.of("README.md"), StandardCharsets.UTF_8);
        int start = readme.indexOf("```java\n") + "```java\n".length();
        String example = readme.substring(start, readme.indexOf("```", start));
        OneMark x = new OneMark();
        for (String line : example.split("\n")) {
            if (!line.isBlank() && !line.equals("OneMark x = new OneMark();")) follow(x, line);
        }
        CHECKS.isTrue("all texts of the example were asked or have a fault", x.count(4) == 0 || x.fault() >= 0);
        CHECKS.end("ReadmeTest");
    }

    private static void follow(OneMark x, String line) throws ReflectiveOperationException {
        Matcher text = TEXT.matcher(line);
        Matcher call = CALL.matcher(line);
        if (text.matches()) {
            CHECKS.due(line, Texts.write(x, text.group(1)), text.group(1).length());
        } else if (call.matches()) {
            CHECKS.due(line, answer(x, call.group(1), call.group(2)), Integer.parseInt(call.group(3)));
        } else {
            CHECKS.isTrue("a line of the example can be read: " + line, false);
        }
    }

    private static int answer(OneMark x, String name, String numbers)
            throws IllegalAccessException, InvocationTargetException {
        String[] told = numbers.isEmpty() ? new String[0] : numbers.split(", ");
        for (Method m : OneMark.class.getMethods()) {
            if (!m.getName().equals(name) || m.getDeclaringClass() != OneMark.class) continue;
            Object[] values = new Object[told.length];
            for (int i = 0; i < told.length; i++) values[i] = Integer.parseInt(told[i]);
            return (Integer) m.invoke(x, values);
        }
        throw new IllegalStateException("no such call: " + name);
    }
}
