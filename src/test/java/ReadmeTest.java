import java.io.IOException;
import java.lang.reflect.Method;
import java.lang.reflect.Modifier;
import java.nio.file.Files;
import java.nio.file.Path;
import java.util.Arrays;
import java.util.regex.Matcher;
import java.util.regex.Pattern;

/** README.md tells every call and constant, and the calls of its examples answer as it says. */
public final class ReadmeTest {
    private static final Pattern EXAMPLE = Pattern.compile("(?s)```java\n(.*?)```");
    private static final Pattern CALL = Pattern.compile("tote\\.(\\w+)\\((.*)\\); +// (\\S+)( {2,}\\S.*)?");
    private static final Pattern ROW = Pattern.compile("(?m)^\\| (-\\d+) \\| `(\\w+)` \\|");

    public static void main(String[] args) throws ReflectiveOperationException, IOException {
        String readme = Files.readString(Path.of("README.md"));
        examples(readme);
        constants(readme);
        for (Method method : ToteHouse.class.getDeclaredMethods()) {
            if (Modifier.isPublic(method.getModifiers())) {
                Expect.holds("README.md has an example of " + method.getName() + "()",
                    readme.contains("tote." + method.getName() + "("));
            }
        }
        Expect.end();
    }

    /** All examples are of one day. */
    private static void examples(String readme) throws ReflectiveOperationException {
        ToteHouse tote = new ToteHouse();
        Matcher example = EXAMPLE.matcher(readme);
        while (example.find()) {
            for (String line : example.group(1).split("\n")) {
                if (line.startsWith("tote.")) {
                    call(tote, line);
                }
            }
        }
    }

    private static void call(ToteHouse tote, String line) throws ReflectiveOperationException {
        Matcher call = CALL.matcher(line);
        Expect.holds("a call with its answer: " + line, call.matches());
        if (call.matches()) {
            Method method = methodOf(call.group(1));
            String[] words = call.group(2).isEmpty() ? new String[0] : call.group(2).split(", ");
            Object[] args = new Object[words.length];
            for (int i = 0; i < words.length; i++) {
                boolean isLong = method.getParameterTypes()[i] == long.class;
                args[i] = isLong ? (Object) number(words[i]) : (Object) (int) number(words[i]);
            }
            Expect.due("README.md, " + line, ((Number) method.invoke(tote, args)).longValue(), number(call.group(3)));
        }
    }

    private static Method methodOf(String name) {
        return Arrays.stream(ToteHouse.class.getMethods()).filter(m -> m.getName().equals(name)).findFirst()
            .orElseThrow();
    }

    /** 12, -12, 0x0C, 12L or the name of a constant. */
    private static long number(String word) throws ReflectiveOperationException {
        boolean isName = word.matches("[A-Z]+");
        return isName ? ToteHouse.class.getField(word).getInt(null) : Long.decode(word.replace("L", ""));
    }

    private static void constants(String readme) throws ReflectiveOperationException {
        Matcher row = ROW.matcher(readme);
        int rows = 0;
        while (row.find()) {
            Expect.due("README.md, " + row.group(2), number(row.group(1)), number(row.group(2)));
            rows++;
        }
        Expect.due("constants in README.md's table", rows, 6);
    }
}
