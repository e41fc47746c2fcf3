import java.lang.reflect.Method;
import java.nio.file.Files;
import java.nio.file.Path;
import java.util.regex.Matcher;
import java.util.regex.Pattern;

/** README.md: its example answers what stands behind each call, and no call of the face is left out. */
public final class ReadmeTest {
    private static final Pattern CALL = Pattern.compile("^x\\.(\\w+)\\(([^()]*)\\);\\s*// (-?\\w+)");

    private static final Due DUE = new Due("ReadmeTest");

    public static void main(String[] args) throws ReflectiveOperationException, java.io.IOException {
        String readme = Files.readString(Path.of("README.md"));
        example(readme);
        for (Method method : FireNets.class.getDeclaredMethods()) {
            if (!java.lang.reflect.Modifier.isPublic(method.getModifiers())) continue;
            DUE.holds(method.getName() + " is told of", readme.contains("| `" + method.getName() + "("));
        }
        DUE.holds("how to run the tests", readme.contains("`.ci/run`"));
        DUE.close();
    }

    private static void example(String readme) throws ReflectiveOperationException {
        FireNets x = new FireNets();
        int calls = 0;
        for (String line : readme.split("\n")) {
            if (!line.startsWith("x.")) continue;
            Matcher call = CALL.matcher(line);
            DUE.holds(line + " can be read", call.find());
            DUE.is(line, answer(x, call.group(1), call.group(2)), due(call.group(3)));
            calls++;
        }
        DUE.holds("an example of some calls", calls > 10);
    }

    private static long answer(FireNets x, String name, String args) throws ReflectiveOperationException {
        String[] texts = args.split(", ");
        Object[] values = new Object[texts.length];
        Class<?>[] types = new Class<?>[texts.length];
        for (int i = 0; i < texts.length; i++) {
            values[i] = Integer.valueOf(texts[i]);
            types[i] = int.class;
        }
        return ((Number) FireNets.class.getMethod(name, types).invoke(x, values)).longValue();
    }

    private static long due(String told) throws ReflectiveOperationException {
        if (told.matches("-?\\d+")) return Long.parseLong(told);
        return FireNets.class.getField(told).getInt(null);
    }
}
