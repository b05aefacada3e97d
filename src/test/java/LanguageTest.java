import java.io.IOException;
import java.lang.reflect.Field;
import java.lang.reflect.Method;
import java.lang.reflect.Modifier;
import java.nio.charset.StandardCharsets;
import java.nio.file.Files;
import java.nio.file.Path;
import java.util.HashSet;
import java.util.List;
import java.util.Set;

/** What of LANGUAGE.md can be looked at by words and by reflection; run in the project's folder. */
public final class LanguageTest {
    private static final Due D = new Due("LanguageTest");
    private static final int MOST_LINES = 60;
    private static final int MOST_CLASSES = 12;
    private static final int MOST_PARAMETERS = 7;
    private static final int MOST_FIELDS = 20;

    public static void main(String[] args) throws IOException {
        List<String> lines = Files.readAllLines(Path.of("src/main/java/BothCorners.java"), StandardCharsets.UTF_8);
        words(lines);
        lengths(lines);
        members();
        D.end();
    }

    private static void words(List<String> lines) {
        String[] never = {"\\bthrow\\b", "\\btry\\b", "\\bcatch\\b", "\\bassert\\b", "\\bsynchronized\\b", "->", "::",
            "\\bimport\\b", "\\bpackage\\b", "Exact\\(", "@", "\\bprotected\\b", "[^\\x20-\\x7e]"};
        boolean comment = false;
        for (int i = 0; i < lines.size(); i++) {
            String line = lines.get(i);
            comment = line.strip().startsWith("/**") || comment;
            for (String word : never) {
                boolean found = !comment && line.replaceAll("//.*", "").matches(".*" + word + ".*");
                D.due("line " + (i + 1) + " has " + word, found ? 1 : 0, 0);
            }
            comment = comment && !line.strip().endsWith("*/");
        }
    }

    /** A method begins with a line that ends in "{" and ends with "}" as far in. */
    private static void lengths(List<String> lines) {
        for (int i = 0; i < lines.size(); i++) {
            String line = lines.get(i);
            if (line.matches(" {4,8}[a-zA-Z].*\\) \\{")) {
                String end = line.replaceAll("\\S.*", "") + "}";
                int at = i;
                while (at < lines.size() && !lines.get(at).equals(end)) {
                    at++;
                }
                D.due("line " + (i + 1) + " begins a long method", at - i > MOST_LINES ? 1 : 0, 0);
            }
        }
    }

    private static void members() {
        Set<String> face = new HashSet<>();
        for (Method method : BothCorners.class.getDeclaredMethods()) {
            if (Modifier.isPublic(method.getModifiers())) {
                face.add(method.getName());
            }
        }
        Class<?>[] inside = BothCorners.class.getDeclaredClasses();
        D.due("too many classes", inside.length + 1 > MOST_CLASSES ? 1 : 0, 0);
        look(BothCorners.class, face);
        for (Class<?> one : inside) {
            D.due(one + " is static", Modifier.isStatic(one.getModifiers()) ? 1 : 0, 1);
            look(one, face);
        }
    }

    private static void look(Class<?> one, Set<String> face) {
        int fields = 0;
        for (Field field : one.getDeclaredFields()) {
            boolean still = Modifier.isStatic(field.getModifiers());
            D.due(field + " is static and not final", still && !Modifier.isFinal(field.getModifiers()) ? 1 : 0, 0);
            D.due(field + " is not private", Modifier.isPrivate(field.getModifiers()) ? 0 : 1, 0);
            fields += still ? 0 : 1;
        }
        D.due(one + " has too many fields", fields > MOST_FIELDS ? 1 : 0, 0);
        for (Method method : one.getDeclaredMethods()) {
            boolean ofFace = one == BothCorners.class && Modifier.isPublic(method.getModifiers());
            D.due(method + " has a name of the face", !ofFace && face.contains(method.getName()) ? 1 : 0, 0);
            D.due(method + " takes too much", method.getParameterCount() > MOST_PARAMETERS ? 1 : 0, 0);
        }
    }
}
