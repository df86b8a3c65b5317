import java.lang.reflect.InvocationTargetException;
import java.lang.reflect.Method;
import java.lang.reflect.Modifier;
import java.util.ArrayList;
import java.util.Arrays;
import java.util.Comparator;
import java.util.List;
import java.util.Random;
import java.util.Set;

/** Promises 1 to 45: long runs of calls by draws, each answer held against the plain model. */
public final class ModelTest {
    private static final int RUNS = 250;
    private static final int CALLS = 512;
    private static final Set<String> DEAR = Set.of("source", "began", "barren", "longest", "many", "rounds");
    private static final Set<String> OFTEN = Set.of("write", "on", "set", "show", "act", "says", "value", "copy");
    private static final long MOST = Plain.MOST;
    private static final long[] EDGES = {-1, -2, 0, 1, 2, 3, 9, 10, 11, 12, 19, 20, 21, 99, 100, 159, 160, 161, 200, 201,
        495, 499, 500, 501, 999, 1000, 1001, 1999, 2000, 2001, 9999, 10000, Integer.MAX_VALUE, Integer.MIN_VALUE,
        MOST - 1, MOST, MOST + 1, Long.MAX_VALUE, Long.MIN_VALUE};
    private static final String[] WORDS = {"base", "law", "value", "write", "go"};
    private static final int[] COUNTS = {1, 2, 3, 1, 1};

    private final Random draw;
    private final TurnedAbout real = new TurnedAbout();
    private final Model model = new Model();
    private final StringBuilder calls = new StringBuilder();

    private ModelTest(long seed) {
        draw = new Random(seed);
    }

    public static void main(String[] args) throws Exception {
        List<Method> methods = new ArrayList<>();
        for (Method method : TurnedAbout.class.getDeclaredMethods()) {
            if (Modifier.isPublic(method.getModifiers())) {
                methods.add(method);
            }
        }
        methods.sort(Comparator.comparing(Method::getName));
        long first = args.length > 0 ? Long.parseLong(args[0]) : 0;
        for (long seed = first; seed < first + RUNS; seed++) {
            new ModelTest(seed).run(methods);
        }
        Due.end();
    }

    private void run(List<Method> methods) throws Exception {
        int told = 0;
        while (told < CALLS) {
            Method method = methods.get(draw.nextInt(methods.size()));
            String name = method.getName();
            if (DEAR.contains(name) && draw.nextInt(8) > 0) {
                continue;
            }
            if (name.equals("text") && told < CALLS - 170) {
                told += tellText(methods);
                continue;
            }
            int times = OFTEN.contains(name) ? 2 : 1;
            for (int i = 0; i < times && told < CALLS; i++, told++) {
                call(method, arguments(method));
            }
        }
    }

    private void call(Method method, long[] a) throws Exception {
        Class<?>[] types = method.getParameterTypes();
        Object[] args = new Object[a.length];
        for (int i = 0; i < a.length; i++) {
            if (types[i] == int.class) {
                a[i] = (int) a[i];
                args[i] = (int) a[i];
            } else {
                args[i] = a[i];
            }
        }
        String call = method.getName() + Arrays.toString(a);
        calls.append(call).append(' ');
        long want = model.call(method.getName(), a);
        try {
            long got = ((Number) method.invoke(real, args)).longValue();
            Due.is(got == want ? call : calls + ": the last one", got, want);
        } catch (InvocationTargetException thrown) {
            Due.holds(calls + ": threw " + thrown.getCause(), false);
        }
    }

    private long[] arguments(Method method) {
        String name = method.getName();
        Class<?>[] types = method.getParameterTypes();
        long[] a = new long[types.length];
        for (int i = 0; i < a.length; i++) {
            a[i] = types[i] == long.class ? number() : small();
        }
        if (draw.nextInt(8) == 0) {
            return a;
        }
        switch (name) {
            case "law": a[0] = draw.nextInt(7); a[1] = draw.nextInt(10); break;
            case "value": a[0] = draw.nextInt(6); a[1] = draw.nextInt(10); a[2] = draw.nextInt(1000); break;
            case "row": a[0] = draw.nextInt(8); a[1] = draw.nextInt(4); a[2] = draw.nextInt(40); break;
            case "set": a[1] = draw.nextInt(20); break;
            case "after": a[2] = draw.nextInt(draw.nextInt(10) == 0 ? 1001 : 12); break;
            case "barren": a[1] = draw.nextInt(9990); a[2] = a[1] + draw.nextInt(20); break;
            case "longest": a[1] = 1 + draw.nextInt(60); break;
            case "rounds": a[1] = 1 + draw.nextInt(40); break;
            case "many": a[1] = draw.nextInt(400); a[2] = a[1] + draw.nextInt(40); a[3] = draw.nextInt(5) - 1; break;
            case "began": a[1] = draw.nextInt(60); a[2] = 1 + draw.nextInt(4); a[3] = draw.nextInt(12) - 1; break;
            case "source": a[1] = draw.nextInt(200); a[2] = draw.nextInt(12) - 1; break;
            case "meet": a[1] = draw.nextInt(200); a[2] = draw.nextInt(200); break;
            case "lawOf": a[1] = draw.nextBoolean() ? draw.nextInt(2) : 10 + draw.nextInt(10); break;
            case "judge": a[2] = 1 + draw.nextInt(6); break;
            case "act": a[1] = draw.nextInt(3); break;
            case "status": a[0] = draw.nextInt(18); break;
            default:
        }
        return a;
    }

    private long small() {
        int sort = draw.nextInt(10);
        return sort < 6 ? draw.nextInt(6) : sort < 9 ? draw.nextInt(12) : EDGES[draw.nextInt(EDGES.length)];
    }

    private long number() {
        switch (draw.nextInt(7)) {
            case 0:
                return EDGES[draw.nextInt(EDGES.length)];
            case 1:
                return MOST - draw.nextInt(300);
            case 2:
                return (draw.nextLong() >>> 1) % (MOST + 1) >> draw.nextInt(50);
            default:
                return draw.nextInt(draw.nextBoolean() ? 30 : 2000);
        }
    }

    /** Puts a text, good for the most part, into a row, and tells it; how many calls that took. */
    private int tellText(List<Method> methods) throws Exception {
        StringBuilder text = new StringBuilder();
        int items = 1 + draw.nextInt(5);
        for (int i = 0; i < items; i++) {
            int word = draw.nextInt(WORDS.length);
            text.append(i > 0 ? ";" : "").append(WORDS[word]);
            for (int n = 0; n < COUNTS[word]; n++) {
                int most = word == 0 ? 11 : n == 1 ? 10 : n == 2 ? 1000 : word == 3 ? 100000 : 6;
                text.append(' ').append(draw.nextInt(6) == 0 ? "0" : "").append(draw.nextInt(most + (draw.nextInt(9) == 0 ? 1 : 0)));
            }
        }
        int spoiled = draw.nextInt(3) == 0 ? draw.nextInt(text.length()) : -1;
        if (spoiled >= 0 && draw.nextBoolean()) {
            text.setLength(spoiled);
        } else if (spoiled >= 0) {
            text.setCharAt(spoiled, " ;019bgax".charAt(draw.nextInt(9)));
        }
        text.setLength(Math.min(160, text.length()));
        int s = draw.nextInt(8);
        call(named(methods, "row"), new long[] {s, draw.nextInt(4), text.length()});
        for (int i = 0; i < text.length(); i++) {
            call(named(methods, "set"), new long[] {s, i, text.charAt(i)});
        }
        call(named(methods, "text"), new long[] {s});
        call(named(methods, "fault"), new long[0]);
        return text.length() + 3;
    }

    private static Method named(List<Method> methods, String name) {
        for (Method method : methods) {
            if (method.getName().equals(name)) {
                return method;
            }
        }
        throw new IllegalArgumentException(name);
    }
}
