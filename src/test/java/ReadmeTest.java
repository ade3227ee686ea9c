import java.io.IOException;
import java.lang.reflect.Method;
import java.nio.file.Files;
import java.nio.file.Path;
import java.util.HashSet;
import java.util.Set;
import java.util.regex.Matcher;
import java.util.regex.Pattern;

/** The example of README.md: each call of it answers what stands behind it, and each call of the face is named. */
public final class ReadmeTest {
    private static final Check CHECK = new Check();

    public static void main(String[] args) throws IOException, ReflectiveOperationException {
        String readme = Files.readString(Path.of("README.md"));
        Matcher example = Pattern.compile("(?s)```java\n(.*?)```").matcher(readme);
        CHECK.due("README.md has an example", example.find(), true);
        IceStreet x = new IceStreet();
        int calls = 0;
        Matcher line = Pattern.compile("(?m)^x\\.(\\w+)\\((.*?)\\);\\s+// (-?\\d+|true|false)(?:: .*)?$")
            .matcher(example.group(1));
        while (line.find()) {
            calls++;
            CHECK.due(line.group(), answer(x, line.group(1), line.group(2).split(", ")), number(line.group(3)));
        }
        CHECK.due("calls with an answer", calls, example.group(1).lines().filter(l -> l.startsWith("x.")).count());
        Set<String> named = new HashSet<>();
        Matcher name = Pattern.compile("`(\\w+)`").matcher(readme);
        while (name.find()) {
            named.add(name.group(1));
        }
        for (Method m : IceStreet.class.getDeclaredMethods()) {
            boolean isPublic = java.lang.reflect.Modifier.isPublic(m.getModifiers());
            CHECK.due(m.getName() + " is named", !isPublic || named.contains(m.getName()), true);
        }
        CHECK.finish();
    }

    private static long answer(IceStreet x, String name, String[] told) throws ReflectiveOperationException {
        for (Method m : IceStreet.class.getMethods()) {
            if (m.getName().equals(name) && m.getParameterCount() == told.length) {
                Object[] numbers = new Object[told.length];
                for (int i = 0; i < told.length; i++) {
                    numbers[i] = (int) number(told[i]);
                }
                return number("" + m.invoke(x, numbers));
            }
        }
        CHECK.due("there is a call " + name, false, true);
        return 0;
    }

    private static long number(String told) {
        if (told.equals("true") || told.equals("false")) {
            return told.equals("true") ? 1 : 0;
        }
        return told.equals("IceStreet.NONE") ? -1 : Long.decode(told);
    }
}
