import java.io.IOException;
import java.lang.reflect.Method;
import java.nio.file.Files;
import java.nio.file.Path;
import java.util.regex.Matcher;
import java.util.regex.Pattern;

/** Each call in README.md answers the number that stands behind it there. */
public final class ReadmeTest {
    private static final Pattern CALL = Pattern.compile("slate\\.(\\w+)\\((.*)\\); +// (-?\\d+).*");

    public static void main(String[] args) throws IOException, ReflectiveOperationException {
        String readme = Files.readString(Path.of("README.md"));
        int from = readme.indexOf("```java") + 7;
        TurnedAbout slate = new TurnedAbout();
        int calls = 0;
        for (String line : readme.substring(from, readme.indexOf("```", from)).split("\n")) {
            Matcher call = CALL.matcher(line);
            if (call.matches()) {
                calls++;
                Due.is(line, answer(slate, call.group(1), call.group(2)), Long.parseLong(call.group(3)));
            } else {
                Due.holds("no call without an answer: " + line, !line.startsWith("slate."));
            }
        }
        Due.holds("it shows calls", calls > 0);
        Due.end();
    }

    private static long answer(TurnedAbout slate, String name, String words) throws ReflectiveOperationException {
        for (Method method : TurnedAbout.class.getDeclaredMethods()) {
            if (method.getName().equals(name)) {
                Class<?>[] types = method.getParameterTypes();
                String[] told = types.length == 0 ? new String[0] : words.split(", ");
                Object[] args = new Object[types.length];
                for (int i = 0; i < args.length; i++) {
                    long v = told[i].startsWith("'") ? told[i].charAt(1) : Long.parseLong(told[i]);
                    if (types[i] == long.class) {
                        args[i] = v;
                    } else {
                        args[i] = (int) v;
                    }
                }
                return ((Number) method.invoke(slate, args)).longValue();
            }
        }
        throw new IllegalArgumentException(name);
    }
}
