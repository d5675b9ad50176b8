import java.lang.reflect.Method;
import java.lang.reflect.Modifier;
import java.nio.charset.StandardCharsets;
import java.nio.file.Files;
import java.nio.file.Path;
import java.util.regex.Matcher;
import java.util.regex.Pattern;

/** What README.md shows is so: each call of its examples answers as it says; each call is named. */
public final class ReadmeTest {
    private static final Pattern CALL =
        Pattern.compile("bench\\.(\\w+)\\(([^)]*)\\);\\s+// (-?\\d+|[A-Z]+)(: .+)?");
    private static int wrong = 0;
    private static int asked = 0;

    public static void main(String[] args) throws Exception {
        String page = Files.readString(Path.of("README.md"), StandardCharsets.UTF_8);
        Matcher example = Pattern.compile("(?s)```java\\n(.*?)```").matcher(page);
        while (example.find()) {
            doExample(example.group(1).split("\n"));
        }
        if (asked < 30) {
            tell("only " + asked + " calls were found");
        }
        namesEachCall(page);
        System.out.println("ReadmeTest: " + asked + " answers, " + wrong + " wrong");
        if (wrong != 0) {
            System.exit(1);
        }
    }

    private static void tell(String what) {
        wrong++;
        System.out.println("README.md: " + what);
    }

    private static void doExample(String[] lines) throws Exception {
        if (!lines[0].equals("TurningFractions bench = new TurningFractions();")) {
            tell("an example does not begin with a new bench: " + lines[0]);
            return;
        }
        TurningFractions bench = new TurningFractions();
        for (int i = 1; i < lines.length; i++) {
            Matcher call = CALL.matcher(lines[i]);
            if (!call.matches()) {
                tell("no call with its answer: " + lines[i]);
                continue;
            }
            long answer = answerOf(bench, call.group(1), call.group(2));
            asked++;
            if (answer != numberOf(call.group(3))) {
                tell("answered " + answer + ": " + lines[i]);
            }
        }
    }

    private static long answerOf(TurningFractions bench, String name, String numbers) throws Exception {
        String[] texts = numbers.isEmpty() ? new String[0] : numbers.split(", ");
        Object[] values = new Object[texts.length];
        Class<?>[] types = new Class<?>[texts.length];
        for (int i = 0; i < texts.length; i++) {
            values[i] = Integer.decode(texts[i]);
            types[i] = int.class;
        }
        return ((Number) TurningFractions.class.getMethod(name, types).invoke(bench, values)).longValue();
    }

    private static long numberOf(String answer) throws Exception {
        if (Character.isLetter(answer.charAt(0))) {
            return ((Number) TurningFractions.class.getField(answer).get(null)).longValue();
        }
        return Long.parseLong(answer);
    }

    private static void namesEachCall(String page) {
        for (Method method : TurningFractions.class.getDeclaredMethods()) {
            if (Modifier.isPublic(method.getModifiers()) && !page.contains("`" + method.getName() + "`")) {
                tell("does not name the call " + method.getName());
            }
        }
    }
}
