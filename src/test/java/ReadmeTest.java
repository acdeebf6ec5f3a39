import java.lang.reflect.Method;
import java.lang.reflect.Modifier;
import java.nio.file.Files;
import java.nio.file.Path;
import java.util.HashSet;
import java.util.Set;
import java.util.regex.Matcher;
import java.util.regex.Pattern;

/** Plays the calls that README.md shows, and holds the class to the answers that stand behind them. */
public final class ReadmeTest {
    private static final Pattern CALL = Pattern.compile("g\\.(\\w+)\\(([-\\d, ]*)\\);\\s*// (-?\\d+)\\b.*");

    private final Checks checks = new Checks();
    private final ModularGains shown = new ModularGains();
    private final Set<String> played = new HashSet<>();

    public static void main(String[] args) throws Exception {
        ReadmeTest test = new ReadmeTest();
        for (String line : Files.readAllLines(Path.of("README.md"))) {
            test.play(line);
        }
        test.everyCallIsShown();
        test.checks.end();
    }

    private void play(String line) throws Exception {
        if (!line.startsWith("g.")) {
            return;
        }
        Matcher call = CALL.matcher(line);
        boolean read = call.matches();
        checks.holds("README.md has an answer behind each call: " + line, read);
        if (read) {
            played.add(call.group(1));
            checks.due("README.md: " + line, answer(call.group(1), numbers(call.group(2))),
                    Long.parseLong(call.group(3)));
        }
    }

    private long answer(String name, Object[] numbers) throws Exception {
        for (Method method : ModularGains.class.getMethods()) {
            if (method.getName().equals(name) && method.getParameterCount() == numbers.length) {
                return ((Number) method.invoke(shown, numbers)).longValue();
            }
        }
        throw new IllegalArgumentException("README.md shows a call that the class does not have: " + name);
    }

    private static Object[] numbers(String listed) {
        if (listed.isEmpty()) {
            return new Object[0];
        }
        String[] words = listed.split(", ");
        Object[] numbers = new Object[words.length];
        for (int i = 0; i < words.length; i++) {
            numbers[i] = Integer.valueOf(words[i]);
        }
        return numbers;
    }

    private void everyCallIsShown() {
        for (Method method : ModularGains.class.getDeclaredMethods()) {
            if (Modifier.isPublic(method.getModifiers())) {
                checks.holds("README.md shows " + method.getName(), played.contains(method.getName()));
            }
        }
    }
}
