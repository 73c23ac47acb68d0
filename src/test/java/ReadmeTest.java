import java.io.IOException;
import java.lang.reflect.Method;
import java.lang.reflect.Modifier;
import java.nio.file.Files;
import java.nio.file.Path;
import java.util.regex.Matcher;
import java.util.regex.Pattern;

/** README.md: its example answers what stands beside each call, and each call of the face is told. */
public final class ReadmeTest {
    private static final Checks CHECKS = new Checks("ReadmeTest");
    private static final Pattern CALL = Pattern.compile("night\\.(\\w+)\\(([^)]*)\\);(?:\\s*// (-?\\d+): )?");

    public static void main(String[] args) throws ReflectiveOperationException, IOException {
        String text = Files.readString(Path.of("README.md"));
        example(text);
        everyCallIsTold(text);
        CHECKS.end();
    }

    private static void example(String text) throws ReflectiveOperationException {
        DepotNight night = new DepotNight();
        Matcher matcher = CALL.matcher(text);
        int calls = 0;
        while (matcher.find()) {
            calls++;
            String call = matcher.group(1) + "(" + matcher.group(2) + ")";
            boolean isTold = matcher.group(3) != null;
            CHECKS.holds(call + " has its answer beside it", isTold);
            int answer = answerOf(night, matcher.group(1), matcher.group(2));
            if (isTold) {
                CHECKS.due(call, answer, Integer.parseInt(matcher.group(3)));
            }
        }
        CHECKS.holds("an example", calls > 0);
    }

    /** The example hands over whole numbers alone. */
    private static int answerOf(DepotNight night, String name, String row) throws ReflectiveOperationException {
        String[] words = row.isEmpty() ? new String[0] : row.split(", ");
        Class<?>[] types = new Class<?>[words.length];
        Object[] numbers = new Object[words.length];
        for (int i = 0; i < words.length; i++) {
            types[i] = int.class;
            numbers[i] = Integer.valueOf(words[i]);
        }
        return (Integer) DepotNight.class.getMethod(name, types).invoke(night, numbers);
    }

    private static void everyCallIsTold(String text) {
        for (Method method : DepotNight.class.getDeclaredMethods()) {
            if (Modifier.isPublic(method.getModifiers())) {
                CHECKS.holds(method.getName() + " is told", text.contains("| `" + method.getName() + "("));
            }
        }
    }
}
