import java.lang.reflect.InvocationTargetException;
import java.lang.reflect.Method;
import java.util.ArrayList;
import java.util.Comparator;
import java.util.List;

/**
 * What tests that bear the document's names are run with: each private method of a test's class
 * whose name begins with a part of the document ("promise07_", "terms2_", ..) is a test.
 */
abstract class NamedTests {
    static final int BAD = -1, NOT = -2, FULL = -3, STATE = -5, WIDE = -6;
    static final int LEAST = Integer.MIN_VALUE, MOST = Integer.MAX_VALUE;
    static final long NO = Long.MIN_VALUE;
    private static int wrong = 0;
    private static int asked = 0;
    private static String test = "";

    /** Runs all tests of a class, in the order of their names; each part must have one. */
    static void runAll(Class<?> tests, List<String> parts) throws Exception {
        for (String part : parts) {
            List<Method> ofPart = testsOf(tests, part);
            if (ofPart.isEmpty()) {
                tell("no test is named " + part);
            }
            for (Method method : ofPart) {
                runTest(method);
            }
        }
        System.out.println(tests.getName() + ": " + asked + " answers, " + wrong + " wrong");
        if (wrong != 0) {
            System.exit(1);
        }
    }

    private static List<Method> testsOf(Class<?> tests, String part) {
        List<Method> found = new ArrayList<>();
        for (Method method : tests.getDeclaredMethods()) {
            if (method.getName().startsWith(part)) {
                found.add(method);
            }
        }
        found.sort(Comparator.comparing(Method::getName));
        return found;
    }

    private static void runTest(Method method) throws Exception {
        test = method.getName();
        int before = asked;
        try {
            method.setAccessible(true);
            method.invoke(null);
        } catch (InvocationTargetException thrown) {
            tell("threw " + thrown.getCause());
        }
        if (asked == before) {
            tell("asked nothing");
        }
    }

    private static void tell(String what) {
        wrong++;
        System.out.println(test + ": " + what);
    }

    static void due(long got, long want) {
        asked++;
        if (got != want) {
            tell(line() + "answered " + got + ", due is " + want);
        }
    }

    static void due(String got, String want) {
        asked++;
        if (!got.equals(want)) {
            tell(line() + "answered " + got + ", due is " + want);
        }
    }

    private static String line() {
        for (StackTraceElement element : new Throwable().getStackTrace()) {
            if (element.getMethodName().equals(test)) {
                return "line " + element.getLineNumber() + ": ";
            }
        }
        return "";
    }

    // ---- what the tests are told with

    /** A bench with one fraction, number 0. */
    static TurningFractions with(int a, int b, int base) {
        TurningFractions x = new TurningFractions();
        x.fraction(a, b, base);
        return x;
    }

    static TurningFractions with8() {
        TurningFractions x = new TurningFractions();
        for (int f = 0; f < 8; f++) {
            x.fraction(f + 1, 7, 10);
        }
        return x;
    }

    static TurningFractions holding(int a, int b, int base) {
        TurningFractions x = with(a, b, base);
        x.hold(0, 0);
        x.drop(0);
        return x;
    }

    static void feed(TurningFractions x, String text) {
        for (int i = 0; i < text.length(); i++) {
            x.feed(text.charAt(i), 1);
        }
    }

    static int readOn(TurningFractions x, String text, int base) {
        x.wipe();
        feed(x, text);
        return x.read(base);
    }

    /** What a NUMERAL becomes on a new bench, as A/B; else the answer. */
    static String read(String text, int base) {
        TurningFractions x = new TurningFractions();
        int answer = readOn(x, text, base);
        return answer < 0 ? "" + answer : fractionOf(x, answer);
    }

    static String fractionOf(TurningFractions x, int f) {
        return x.of(f, 0) + "/" + x.of(f, 1);
    }

    static int run(TurningFractions x, String text) {
        x.wipe();
        feed(x, text);
        return x.run();
    }

    /** What run() answers where 1 by 7 is the only FRACTION. */
    static int run(String text) {
        return run(with(1, 7, 10), text);
    }

    static String spelled(int a, int b, int base) {
        TurningFractions x = with(a, b, base);
        StringBuilder text = new StringBuilder();
        for (int i = 0; i < x.spell(0, -1); i++) {
            text.append((char) x.spell(0, i));
        }
        return text.toString();
    }

    static int thin(TurningFractions x, String word) {
        x.wipe();
        feed(x, word);
        return x.thin();
    }

    /** What is left of 2 .. n. */
    static String thinned(int n, int base, String word) {
        TurningFractions x = new TurningFractions();
        x.list(n, base);
        int answer = thin(x, word);
        return answer < 0 ? "" + answer : listOf(x);
    }

    static String listOf(TurningFractions x) {
        StringBuilder text = new StringBuilder();
        for (int i = 0; i < x.count(1); i++) {
            text.append(i == 0 ? "" : " ").append(x.listed(i));
        }
        return text.toString();
    }

    /** HEAD, LENGTH and KIND. */
    static String turning(int a, int b, int base) {
        TurningFractions x = with(a, b, base);
        return x.of(0, 4) + " " + x.of(0, 5) + " " + x.of(0, 6);
    }
}
