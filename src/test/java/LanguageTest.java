import java.lang.management.ManagementFactory;
import java.nio.charset.StandardCharsets;
import java.nio.file.Files;
import java.nio.file.Path;
import java.util.regex.Matcher;
import java.util.regex.Pattern;

/** What of ../shared/LANGUAGE.md the program's text and its use of memory show. */
public final class LanguageTest {
    private static int wrong = 0;

    public static void main(String[] args) throws Exception {
        String text = Files.readString(Path.of("src/main/java/TurningFractions.java"), StandardCharsets.ISO_8859_1);
        String code = text.replaceAll("(?s)/\\*.*?\\*/", "").replaceAll("//[^\n]*", "");
        theWords(code.replaceAll("\"[^\"]*\"", "\"\""));
        theTexts(code);
        theLengths(code);
        theRoom();
        System.out.println("LanguageTest: " + wrong + " wrong");
        if (wrong != 0) {
            System.exit(1);
        }
    }

    private static void due(boolean held, String what) {
        if (!held) {
            wrong++;
            System.out.println("not as due: " + what);
        }
    }

    private static void none(String code, String pattern) {
        Matcher matcher = Pattern.compile(pattern).matcher(code);
        due(!matcher.find(), pattern + " stands in the program");
    }

    private static void theWords(String code) {
        none(code, "\\b(throw|throws|try|catch|finally|synchronized|assert|import|package|instanceof|var|yield)\\b");
        none(code, "\\b(equals|hashCode|toString|System|Thread|Random|Object|double|float)\\b");
        none(code, "->|::|@|<\\w+>");
        none(code, "\"\"\\s*\\+|\\+\\s*\"\"");
        none(code, "static\\s*\\{");
        none(code, "while \\(true\\)|for \\(;;\\)");
        // what is made is made where fields begin or in constructors: never in a method
        Matcher made = Pattern.compile("(?m)^(.*)\\bnew [A-Z]\\w*|^(.*)\\bnew int\\[").matcher(code);
        while (made.find()) {
            String line = made.group();
            due(line.contains("final") || line.matches("\\s+\\w+\\[\\w\\] = new \\w+"), "made in a method: " + line);
        }
    }

    private static void theTexts(String code) {
        for (int i = 0; i < code.length(); i++) {
            due(code.charAt(i) < 128, "a sign above 127");
        }
    }

    private static void theLengths(String code) {
        Pattern method = Pattern.compile("(?ms)^(    |        )(?! |if|for|while|switch|else)[^\\n=]*\\) \\{\\n.*?^\\1\\}");
        Matcher matcher = method.matcher(code);
        int methods = 0;
        while (matcher.find()) {
            methods++;
            String[] lines = matcher.group().split("\n");
            due(lines.length <= 60, "short enough: " + lines[0]);
        }
        due(methods > 90, "only " + methods + " methods were found");
    }

    /** 512 calls of the dearest kinds make next to nothing: the rows are made once. */
    private static void theRoom() {
        com.sun.management.ThreadMXBean threads = (com.sun.management.ThreadMXBean) ManagementFactory.getThreadMXBean();
        long me = Thread.currentThread().getId();
        dearCalls(new TurningFractions());
        TurningFractions x = new TurningFractions();
        long before = threads.getThreadAllocatedBytes(me);
        dearCalls(x);
        long made = threads.getThreadAllocatedBytes(me) - before;
        due(made < 100_000, made + " bytes made by 512 calls");
        before = threads.getThreadAllocatedBytes(me);
        new TurningFractions();
        made = threads.getThreadAllocatedBytes(me) - before;
        due(made < 40_000, made + " bytes made by a new object");
    }

    private static void dearCalls(TurningFractions x) {
        x.fraction(1, 983, 10);
        for (int n = 0; n < 30; n++) {
            x.full(10, 2, 999, 0);
            x.cycles(10, 983, 0);
            x.order(10, 9967);
            x.block(0, 2, -1);
            x.nines(0, 2);
            x.multiple(0, 0);
            x.tells(0, 2, 0);
            x.spell(0, 500);
            x.list(400, 10);
            x.feed('p', 1);
            x.feed(0x72696d65, 4);
            x.thin();
            x.feed(0x302e2831, 4);
            x.feed(')', 1);
            x.read(10);
            x.run();
            x.image();
        }
    }
}
