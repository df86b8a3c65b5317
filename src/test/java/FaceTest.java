import java.io.IOException;
import java.lang.reflect.Constructor;
import java.lang.reflect.Field;
import java.lang.reflect.InvocationTargetException;
import java.lang.reflect.Method;
import java.lang.reflect.Modifier;
import java.nio.file.Files;
import java.nio.file.Path;
import java.util.Arrays;
import java.util.Comparator;
import java.util.Random;
import java.util.Set;
import java.util.TreeSet;
import java.util.regex.Matcher;
import java.util.regex.Pattern;

/** The face is the document's, and no call throws, whatever it is given. */
public final class FaceTest {
    private static final long[] ODD = {0, 1, 2, 3, 5, 7, 9, 10, 20, 99, 160, 196, 1000, 9999, 10000, -1, -2,
        Integer.MAX_VALUE, Integer.MIN_VALUE, 999999999999999L, 1000000000000000L, Long.MAX_VALUE, Long.MIN_VALUE};

    public static void main(String[] args) throws Exception {
        faceIsTheDocuments();
        nothingThrows();
        Due.end();
    }

    private static void faceIsTheDocuments() throws IOException {
        String doc = Files.readString(Path.of("../shared/DOC.md"));
        String face = doc.substring(doc.indexOf("```java"), doc.indexOf("```", doc.indexOf("```java") + 3));
        Set<String> want = new TreeSet<>();
        Matcher lines = Pattern.compile("public (int|long) (\\w+)\\((.*?)\\);").matcher(face);
        while (lines.find()) {
            want.add(lines.group(1) + " " + lines.group(2) + "(" + lines.group(3).replaceAll("(int|long) \\w+", "$1").replace(" ", "") + ")");
        }
        Set<String> have = new TreeSet<>();
        for (Method method : TurnedAbout.class.getDeclaredMethods()) {
            if (!Modifier.isPrivate(method.getModifiers()) && !method.isSynthetic()) {
                String types = Arrays.toString(method.getParameterTypes()).replaceAll("[\\[\\] ]", "");
                have.add(method.getReturnType() + " " + method.getName() + "(" + types + ")");
            }
        }
        Due.is("the document's methods", want.size(), 44);
        Due.holds("methods " + have + " are " + want, have.equals(want));
        for (Field field : TurnedAbout.class.getDeclaredFields()) {
            boolean isFace = field.getName().equals("NONE");
            Due.holds(field.getName(), field.isSynthetic() || Modifier.isPrivate(field.getModifiers()) != isFace);
        }
        Constructor<?>[] constructors = TurnedAbout.class.getDeclaredConstructors();
        Due.is("constructors", constructors.length, 1);
        Due.holds("it is public", Modifier.isPublic(constructors[0].getModifiers()));
        Due.holds("the class is public and final", TurnedAbout.class.getModifiers() == Modifier.PUBLIC + Modifier.FINAL);
    }

    private static void nothingThrows() throws IllegalAccessException {
        Method[] methods = TurnedAbout.class.getDeclaredMethods();
        Arrays.sort(methods, Comparator.comparing(Method::getName));
        Random draw = new Random(7);
        for (int run = 0; run < 60; run++) {
            TurnedAbout x = new TurnedAbout();
            for (int i = 0; i < 512; i++) {
                Method method = methods[draw.nextInt(methods.length)];
                if (Modifier.isPublic(method.getModifiers())) {
                    call(x, method, draw);
                }
            }
        }
    }

    private static void call(TurnedAbout x, Method method, Random draw) throws IllegalAccessException {
        Class<?>[] types = method.getParameterTypes();
        Object[] args = new Object[types.length];
        for (int i = 0; i < types.length; i++) {
            long v = draw.nextInt(3) > 0 ? draw.nextInt(8) : ODD[draw.nextInt(ODD.length)];
            if (types[i] == long.class) {
                args[i] = v;
            } else {
                args[i] = (int) v;
            }
        }
        try {
            method.invoke(x, args);
        } catch (InvocationTargetException thrown) {
            Due.holds(method.getName() + Arrays.toString(args) + " threw " + thrown.getCause(), false);
        }
    }
}
