import java.lang.reflect.Method;
import java.lang.reflect.Modifier;
import java.util.Arrays;
import java.util.Comparator;
import java.util.List;
import java.util.Random;

/** Every refused call is counted once under its number, every other call not at all; a refused call changes nothing. */
public final class RefusalsTest {
    private static final List<String> NEVER_REFUSE = List.of("element", "holds", "fault", "seed", "act", "trace", "status");
    private static final List<String> TEN_LOWER = List.of("goes", "longest", "slip", "judge");
    private static final long[] ODD = {10, 19, 20, 21, 160, 161, 501, 2001, 10000, -1, -2, Integer.MIN_VALUE,
        999999999999999L, 1000000000000000L};

    public static void main(String[] args) throws Exception {
        Method[] methods = TurnedAbout.class.getDeclaredMethods();
        Arrays.sort(methods, Comparator.comparing(Method::getName));
        Random draw = new Random(11);
        for (int run = 0; run < 400; run++) {
            TurnedAbout x = new TurnedAbout();
            prepare(x, run);
            for (int i = 0; i < 400; i++) {
                Method method = methods[draw.nextInt(methods.length)];
                if (Modifier.isPublic(method.getModifiers())) {
                    called(x, method, draw);
                }
            }
        }
        Due.end();
    }

    private static void prepare(TurnedAbout x, int run) {
        for (int i = 0; i < run % 7; i++) {
            x.law((run + i) % 7, i);
            x.show(i, i);
        }
        Due.letters(x, 7, run % 2 == 0 ? "write 5;go 0" : "base 2;base 1");
        x.row(6, 3, 8);
    }

    private static void called(TurnedAbout x, Method method, Random draw) throws Exception {
        Class<?>[] types = method.getParameterTypes();
        Object[] args = new Object[types.length];
        for (int i = 0; i < types.length; i++) {
            long v = draw.nextInt(5) > 0 ? draw.nextInt(8) : ODD[draw.nextInt(ODD.length)];
            if (types[i] == long.class) {
                args[i] = v;
            } else {
                args[i] = (int) v;
            }
        }
        String before = state(x);
        int[] counts = counts(x);
        long answer = ((Number) method.invoke(x, args)).longValue();
        int no = refusal(method.getName(), answer);
        String call = method.getName() + Arrays.toString(args) + " answered " + answer;
        if (no != 0) {
            counts[-no - 1]++;
            Due.holds(call + ", nothing changed", state(x).equals(before));
        }
        Due.holds(call + ", counted", Arrays.equals(counts, counts(x)));
    }

    /** The refusal's number from -1 to -7, or 0. */
    private static int refusal(String name, long answer) {
        if (NEVER_REFUSE.contains(name) || answer >= 0) {
            return 0;
        }
        if (TEN_LOWER.contains(name)) {
            return answer == TurnedAbout.NONE ? 0 : (int) answer + 10;
        }
        // base() and restore() and the others answer nothing else below 0
        return (int) answer;
    }

    private static int[] counts(TurnedAbout x) {
        int[] counts = new int[7];
        for (int i = 0; i < 7; i++) {
            counts[i] = x.status(11 + i);
        }
        return counts;
    }

    /** All that can be told without a call that may be refused. */
    private static String state(TurnedAbout x) {
        StringBuilder state = new StringBuilder();
        for (int what = 0; what < 5; what++) {
            state.append(x.status(what)).append(' ');
        }
        for (int law = 0; law < x.status(0); law++) {
            for (int what = 0; what < 20; what += what == 1 ? 9 : 1) {
                state.append(x.lawOf(law, what)).append(' ');
            }
        }
        for (int i = 0; i < x.status(1); i++) {
            state.append(x.slate(i)).append(' ');
        }
        for (int s = 0; s < 8; s++) {
            state.append(x.holds(s)).append(':');
            for (int i = 0; i < 160; i++) {
                state.append(x.element(s, i)).append(' ');
            }
        }
        return state.toString();
    }
}
