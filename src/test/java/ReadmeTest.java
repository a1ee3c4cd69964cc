import java.io.IOException;
import java.lang.reflect.Method;
import java.lang.reflect.Modifier;
import java.nio.file.Files;
import java.nio.file.Path;
import java.util.Arrays;
import java.util.Set;
import java.util.TreeSet;
import java.util.regex.Matcher;
import java.util.regex.Pattern;

/** The run of calls in README.md answers what it says there, and it shows every method. */
public final class ReadmeTest {
    private static final Path README = Path.of("README.md");
    private static final Pattern CALL = Pattern.compile(
            "card\\.(\\w+)\\(([-\\d, ]*)\\);\\s+// (no answer|-?\\d+|CardFlash\\.[A-Z]+)(?:: .*)?");
    private static final Checks CHECKS = new Checks();

    public static void main(String[] args) throws IOException, ReflectiveOperationException {
        CardFlash card = new CardFlash();
        Set<String> shown = new TreeSet<>();
        for (String line : Files.readAllLines(README)) {
            Matcher call = CALL.matcher(line);
            if (call.matches()) {
                CHECKS.holds(line, answer(card, call.group(1), call.group(2)).equals(due(call.group(3))));
                shown.add(call.group(1));
            } else {
                CHECKS.holds("the line can be read: " + line, !line.startsWith("card."));
            }
        }
        for (Method method : CardFlash.class.getDeclaredMethods()) {
            if (Modifier.isPublic(method.getModifiers())) {
                CHECKS.holds("README.md shows " + method.getName(), shown.contains(method.getName()));
            }
        }
        CHECKS.end();
    }

    private static String answer(CardFlash card, String name, String arguments) throws ReflectiveOperationException {
        Object[] numbers = Pattern.compile("-?\\d+").matcher(arguments).results()
                .map(found -> Integer.valueOf(found.group())).toArray();
        Class<?>[] types = new Class<?>[numbers.length];
        Arrays.fill(types, int.class);
        Object answer = CardFlash.class.getMethod(name, types).invoke(card, numbers);
        return answer == null ? "no answer" : answer.toString();
    }

    private static String due(String text) throws ReflectiveOperationException {
        if (text.startsWith("CardFlash.")) {
            return CardFlash.class.getField(text.substring("CardFlash.".length())).get(null).toString();
        }
        return text;
    }
}
