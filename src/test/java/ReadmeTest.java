import java.io.IOException;
import java.lang.reflect.Method;
import java.lang.reflect.Modifier;
import java.nio.charset.StandardCharsets;
import java.nio.file.DirectoryStream;
import java.nio.file.Files;
import java.nio.file.Path;
import java.util.List;
import java.util.Set;
import java.util.TreeSet;
import java.util.regex.Matcher;
import java.util.regex.Pattern;

/** What README.md shows is so: its calls are made, its tables compared; run in the project's folder. */
public final class ReadmeTest {
    private static final Due D = new Due("ReadmeTest");
    private static final String NEW = "BothCorners x = new BothCorners();";
    private static final Pattern CALL = Pattern.compile("x\\.(\\w+)\\(([-0-9, ]*)\\); +// (-?\\d+)(:.*)?");
    private static final Pattern LETTERS = Pattern.compile("for \\(char letter : \"(.*)\"\\.toCharArray\\(\\)\\) \\{");
    private static final Pattern NAMED = Pattern.compile("`(\\w+)`");
    private static final int FEWEST_CALLS = 30;

    public static void main(String[] args) throws IOException, ReflectiveOperationException {
        List<String> lines = Files.readAllLines(Path.of("README.md"), StandardCharsets.UTF_8);
        shownCalls(lines);
        namedCalls(part(lines, "## Calls"));
        namedTests(part(lines, "## Tests"));
        D.end();
    }

    private static void shownCalls(List<String> lines) throws ReflectiveOperationException {
        BothCorners x = null;
        boolean shown = false;
        int calls = 0;
        for (int i = 0; i < lines.size(); i++) {
            String line = lines.get(i);
            Matcher call = CALL.matcher(line);
            Matcher letters = LETTERS.matcher(line);
            if (line.startsWith("```")) {
                shown = line.equals("```java");
            } else if (shown && line.equals(NEW)) {
                x = new BothCorners();
            } else if (shown && call.matches()) {
                D.due("README line " + (i + 1), answer(x, call.group(1), call.group(2)), Long.parseLong(call.group(3)));
                calls++;
            } else if (shown && letters.matches() && feeds(lines, i)) {
                feed(x, letters.group(1));
                i += 2;
            } else {
                D.due("README line " + (i + 1) + " is not understood", shown ? 1 : 0, 0);
            }
        }
        D.due("too few calls are shown", calls < FEWEST_CALLS ? 1 : 0, 0);
    }

    private static boolean feeds(List<String> lines, int at) {
        return at + 2 < lines.size() && lines.get(at + 1).equals("    x.feed(letter);") && lines.get(at + 2).equals("}");
    }

    private static void feed(BothCorners x, String text) {
        for (int i = 0; i < text.length(); i++) {
            x.feed(text.charAt(i));
        }
    }

    private static long answer(BothCorners x, String name, String told) throws ReflectiveOperationException {
        String[] words = told.isBlank() ? new String[0] : told.split(", ");
        Class<?>[] types = new Class<?>[words.length];
        Object[] values = new Object[words.length];
        for (int i = 0; i < words.length; i++) {
            types[i] = int.class;
            values[i] = Integer.valueOf(words[i]);
        }
        Number number = (Number) BothCorners.class.getMethod(name, types).invoke(x, values);
        return number.longValue();
    }

    private static List<String> part(List<String> lines, String heading) {
        int begin = lines.indexOf(heading) + 1;
        int end = begin;
        while (end < lines.size() && !lines.get(end).startsWith("## ")) {
            end++;
        }
        return lines.subList(begin, end);
    }

    private static void namedCalls(List<String> lines) {
        Set<String> named = new TreeSet<>();
        for (String line : lines) {
            Matcher name = NAMED.matcher(line);
            while (name.find()) {
                D.due("README names the call twice: " + name.group(1), named.add(name.group(1)) ? 0 : 1, 0);
            }
        }
        Set<String> face = new TreeSet<>();
        for (Method method : BothCorners.class.getDeclaredMethods()) {
            if (Modifier.isPublic(method.getModifiers())) {
                face.add(method.getName());
            }
        }
        same("call", named, face);
    }

    private static void namedTests(List<String> lines) throws IOException {
        Set<String> named = new TreeSet<>();
        for (String line : lines) {
            Matcher name = Pattern.compile("\\| (\\w+Test) \\|.*").matcher(line);
            if (name.matches()) {
                named.add(name.group(1));
            }
        }
        Set<String> there = new TreeSet<>();
        try (DirectoryStream<Path> files = Files.newDirectoryStream(Path.of("src/test/java"), "*Test.java")) {
            for (Path file : files) {
                there.add(file.getFileName().toString().replace(".java", ""));
            }
        }
        same("test", named, there);
    }

    private static void same(String what, Set<String> named, Set<String> there) {
        for (String one : named) {
            D.due("README names a " + what + " that is not there: " + one, there.contains(one) ? 0 : 1, 0);
        }
        for (String one : there) {
            D.due("README does not name the " + what + " " + one, named.contains(one) ? 0 : 1, 0);
        }
    }
}
