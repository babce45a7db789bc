import java.lang.reflect.Method;
import java.lang.reflect.Modifier;
import java.nio.file.Files;
import java.nio.file.Path;
import java.util.TreeMap;
import java.util.TreeSet;
import java.util.regex.Matcher;
import java.util.regex.Pattern;

/** All promises: what README.md shows of each call is what the program answers, and no call is left out. */
final class ReadmeTest {
    private static final Pattern NEW = Pattern.compile("(?m)^WordYear x = new WordYear\\(\\);$");
    private static final Pattern CALL = Pattern.compile("(?m)^x\\.(\\w+)\\(([^()]*)\\); +// (-?\\d+|true|false)\\b.*$");

    public static void main(String[] args) throws Exception {
        TreeMap<String, Method> face = new TreeMap<>();
        for (Method method : WordYear.class.getDeclaredMethods()) {
            if (Modifier.isPublic(method.getModifiers())) {
                face.put(method.getName(), method);
            }
        }
        String text = Files.readString(Path.of("README.md"));
        Due.is("objects that README.md makes", NEW.matcher(text).results().count(), 1);
        TreeSet<String> unshown = new TreeSet<>(face.keySet());
        WordYear x = new WordYear();
        Matcher shown = CALL.matcher(text);
        while (shown.find()) {
            Method method = face.get(shown.group(1));
            if (method == null || method.getParameterCount() != numbers(shown.group(2)).length) {
                Due.is("there is a call " + shown.group(), 0, 1);
                continue;
            }
            unshown.remove(shown.group(1));
            Object answer = method.invoke(x, numbers(shown.group(2)));
            Due.is(shown.group() + " (" + answer + ")", answer.toString().equals(shown.group(3)), true);
        }
        Due.is("lines of README.md that call", shownLines(text), CALL.matcher(text).results().count());
        Due.is("calls that README.md does not show: " + unshown, unshown.size(), 0);
        Due.end("ReadmeTest");
    }

    private static long shownLines(String text) {
        return text.lines().filter(line -> line.startsWith("x.")).count();
    }

    private static Object[] numbers(String text) {
        if (text.isEmpty()) {
            return new Object[0];
        }
        String[] written = text.split(", ");
        Object[] values = new Object[written.length];
        for (int i = 0; i < values.length; i++) {
            values[i] = Long.decode(written[i]).intValue();
        }
        return values;
    }
}
