import java.io.IOException;
import java.nio.file.Files;
import java.nio.file.Path;
import java.util.HashSet;
import java.util.List;
import java.util.Set;
import java.util.regex.Matcher;
import java.util.regex.Pattern;

/** What of ../shared/LANGUAGE.md a look at the words of the program can tell. */
public final class LanguageTest {
    private static final Path PROGRAM = Path.of("src/main/java/TurnedAbout.java");

    public static void main(String[] args) throws IOException {
        String source = Files.readString(PROGRAM);
        Due.holds("signs 1 to 127", source.chars().allMatch(c -> c >= 1 && c <= 127));
        String code = source.replaceAll("(?s)/\\*.*?\\*/", "").replaceAll("//.*", "");
        String[] ruledOut = {"throw", "throws", "try", "catch", "finally", "synchronized", "assert", "protected",
            "equals", "hashCode", "toString", "package", "Object", "Exact", "System\\.[^a]", "->", "::", "@"};
        for (String word : ruledOut) {
            String pattern = Character.isLetter(word.charAt(0)) ? "\\b" + word + "\\b" : word;
            Due.holds("no " + word, !Pattern.compile(pattern).matcher(code).find());
        }
        classes(code);
        names(code);
        constructors(code);
        methods(Files.readAllLines(PROGRAM));
        Due.end();
    }

    private static void classes(String code) {
        Matcher inside = Pattern.compile("\\n    (.*)\\bclass \\w+").matcher(code);
        int count = 1;
        while (inside.find()) {
            count++;
            Due.holds(inside.group(), inside.group(1).startsWith("private static "));
        }
        Due.holds(count + " classes", count <= 12);
    }

    /** No method inside bears the name of one of the face. */
    private static void names(String code) {
        Matcher head = Pattern.compile("\\n(?: {4}| {8})([a-zA-Z][\\w\\[\\] ]*) (\\w+)\\([^()]*\\) \\{").matcher(code);
        Set<String> face = new HashSet<>();
        Set<String> inside = new HashSet<>();
        while (head.find()) {
            (head.group(1).startsWith("public ") ? face : inside).add(head.group(2));
        }
        Due.is("methods of the face", face.size(), 44);
        inside.retainAll(face);
        Due.holds("inside, too: " + inside, inside.isEmpty());
    }

    /** A constructor hands out nothing of the object that it makes: neither the object nor a part of it. */
    private static void constructors(String code) {
        Matcher made = Pattern.compile("(?s)\\n( {4}| {8})(?:public )?([A-Z]\\w*)\\([^()]*\\) \\{(.*?)\\n\\1\\}").matcher(code);
        int count = 0;
        while (made.find()) {
            count++;
            Due.holds(made.group(2) + " hands itself out", !Pattern.compile("[(,=] *this\\b(?!\\.)").matcher(made.group(3)).find());
            Due.holds(made.group(2) + " hands a part out", !Pattern.compile("new \\w+\\([^)]").matcher(made.group(3)).find());
        }
        Due.is("constructors", count, 11);
    }

    /** Every method has sixty lines and seven parameters at most. */
    private static void methods(List<String> lines) {
        Pattern head = Pattern.compile("( {4}| {8})[a-zA-Z][\\w\\[\\] ]* \\w+\\(([^()]*)\\) \\{");
        for (int i = 0; i < lines.size(); i++) {
            Matcher method = head.matcher(lines.get(i));
            if (method.matches()) {
                int end = i;
                while (!lines.get(end).equals(method.group(1) + "}")) {
                    end++;
                }
                Due.holds("sixty lines: " + lines.get(i), end - i < 60);
                Due.holds("seven parameters: " + lines.get(i), method.group(2).split(",").length <= 7);
            }
        }
    }
}
