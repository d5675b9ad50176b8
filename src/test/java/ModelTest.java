import java.math.BigInteger;
import java.util.ArrayList;
import java.util.HashMap;
import java.util.List;
import java.util.Map;
import java.util.regex.Matcher;
import java.util.regex.Pattern;

/**
 * Compares the program, call by call, with a slow model that follows the document's words: long
 * mixed runs with chosen and with wild numbers, and sweeps over all denominators and bases.
 */
public final class ModelTest {
    private static int wrong = 0;
    private static long calls = 0;
    private static long seed = 20261118L;

    public static void main(String[] args) {
        sweepFractions();
        sweepBlocksAndShifts();
        sweepOrders();
        sweepLists();
        for (int run = 0; run < 1000; run++) {
            mixedRun(run);
        }
        for (int run = 0; run < 400; run++) {
            textRun(run);
        }
        System.out.println("ModelTest: " + calls + " calls, " + wrong + " wrong");
        if (wrong != 0) {
            System.exit(1);
        }
    }

    private static void due(String call, long got, long want) {
        calls++;
        if (got != want) {
            wrong++;
            if (wrong <= 40) {
                System.out.println(call + " answered " + got + ", due is " + want);
            }
        }
    }

    /** A number 0 .. bound less 1, always the same ones in the same order. */
    private static int any(int bound) {
        seed = seed * 6364136223846793005L + 1442695040888963407L;
        return (int) ((seed >>> 33) % bound);
    }

    // ---- sweeps

    private static void sweepFractions() {
        for (int base = 2; base <= 16; base++) {
            TurningFractions x = new TurningFractions();
            for (int b = 1; b <= 999; b++) {
                int a = b % 3 == 0 ? any(10000) : any(2) == 0 ? 1 : any(b + 1);
                x.fraction(a, b, base);
                Turning t = new Turning(a, b, base);
                String where = a + "/" + b + " in " + base + ": ";
                due(where + "head", x.of(0, 4), t.head);
                due(where + "length", x.of(0, 5), t.length);
                due(where + "kind", x.of(0, 6), t.kind());
                String spelled = t.spelled();
                due(where + "spell -1", x.spell(0, -1), spelled.length());
                StringBuilder got = new StringBuilder();
                for (int i = 0; i < spelled.length() && i < 30; i++) {
                    got.append((char) x.spell(0, i));
                }
                due(where + "spell " + got, got.toString().equals(spelled.substring(0, got.length())) ? 1 : 0, 1);
                due(where + "last", x.spell(0, spelled.length() - 1), spelled.charAt(spelled.length() - 1));
                due(where + "behind", x.spell(0, spelled.length()), -2);
                for (int n = 0; n < 3; n++) {
                    int i = any(n == 0 ? 20 : 10000);
                    due(where + "rest " + i, x.rest(0, i), t.restAt(i));
                    due(where + "digit " + i, x.digit(0, i), t.digitAt(i));
                    int kind = any(6);
                    int v = any(100);
                    due(where + "tells " + kind, x.tells(0, kind, v), t.tells(kind, v));
                    int d = any(base);
                    due(where + "place " + d, x.place(0, d), t.place(d));
                }
                x.drop(0);
            }
        }
    }

    private static void sweepBlocksAndShifts() {
        for (int base = 2; base <= 16; base++) {
            TurningFractions x = new TurningFractions();
            for (int b = 1 + any(3); b <= 999; b += 1 + any(9)) {
                int a = any(4) == 0 ? any(10000) : 1;
                x.fraction(a, b, base);
                Turning t = new Turning(a, b, base);
                String where = a + "/" + b + " in " + base + ": ";
                for (int k = 0; k <= t.length + 1; k++) {
                    if (k > 12 && t.length % k != 0 && any(20) != 0) {
                        continue;
                    }
                    due(where + "nines " + k, x.nines(0, k), t.nines(k));
                    int w = k > 0 ? t.length / k : 1;
                    int j = any(w + 3) - 2;
                    due(where + "block " + k + " " + j, x.block(0, k, j), t.block(k, j));
                    due(where + "block " + k + " -1", x.block(0, k, -1), t.block(k, -1));
                    due(where + "block " + k + " last", x.block(0, k, w - 1), t.block(k, w - 1));
                }
                for (int n = 0; n < 4; n++) {
                    int m = n == 0 ? any(1001) : 1 + any(60);
                    due(where + "shift " + m, x.shift(0, m), t.shift(m));
                }
                int s = any(t.length + 2) - 1;
                due(where + "multiple " + s, x.multiple(0, s), t.multiple(s));
                x.drop(0);
            }
        }
    }

    private static void sweepOrders() {
        TurningFractions x = new TurningFractions();
        Model model = new Model();
        for (int base = 2; base <= 16; base++) {
            for (int b = 1; b <= 9999; b += b < 60 ? 1 : 1 + any(90)) {
                due("order " + base + " " + b, x.order(base, b), model.order(base, b));
            }
            for (int b = 2; b <= 999; b += 1 + any(3)) {
                due("cycles " + base + " " + b + " 0", x.cycles(base, b, 0), model.cycles(base, b, 0));
                due("cycles " + base + " " + b + " 1", x.cycles(base, b, 1), model.cycles(base, b, 1));
            }
            for (int what = 0; what <= 2; what++) {
                due("full " + base + " all " + what, x.full(base, 2, 999, what), model.full(base, 2, 999, what));
            }
        }
    }

    private static void sweepLists() {
        String[] words = Model.WORDS;
        for (int base = 2; base <= 16; base++) {
            for (int w = 0; w < 2 * words.length; w++) {
                TurningFractions x = new TurningFractions();
                Model model = new Model();
                String word = w < words.length ? words[w] : "not " + words[w - words.length];
                int n = w % 5 == 0 ? 400 : 2 + any(200);
                due("list", x.list(n, base), model.list(n, base));
                feed(x, model, word);
                due("thin " + word, x.thin(), model.thin());
                for (int i = 0; i <= n; i++) {
                    due("listed " + i + " of " + word + " in " + base, x.listed(i), model.listed(i));
                }
            }
        }
    }

    // ---- mixed runs

    private static void feed(TurningFractions x, Model model, String text) {
        for (int i = 0; i < text.length(); i += 4) {
            int n = Math.min(4, text.length() - i);
            int v = 0;
            for (int j = 0; j < n; j++) {
                v = (v << 8) | text.charAt(i + j);
            }
            if (n < 4 && any(2) == 0) {
                v |= any(1 << 7) << (8 * n);
            }
            due("feed " + v + " " + n, x.feed(v, n), model.feed(v, n));
        }
    }

    private static int someBase() {
        int[] wild = {0, 1, 17, -1, Integer.MIN_VALUE, Integer.MAX_VALUE};
        return any(30) == 0 ? wild[any(wild.length)] : any(2) == 0 ? 10 : 2 + any(15);
    }

    private static int some(int most) {
        int[] wild = {-1, -2, Integer.MIN_VALUE, Integer.MAX_VALUE, most + 1, most, 0, 1, 100000};
        return any(20) == 0 ? wild[any(wild.length)] : any(3) == 0 ? any(most + 1) : any(Math.min(most, 30) + 1);
    }

    private static int someFraction(Model model) {
        return any(15) == 0 ? any(12) - 2 : any(Math.max(1, model.fractions.size()));
    }

    private static int someHolder() {
        return any(20) == 0 ? any(10) - 2 : any(6);
    }

    private static void mixedRun(int run) {
        TurningFractions x = new TurningFractions();
        Model model = new Model();
        // Fewer than 512, since one turn may make many calls.
        for (int n = 0; n < 300; n++) {
            int which = any(36);
            if (which < 9) {
                fractionCall(which, x, model, run);
            } else if (which < 18) {
                turningCall(which, x, model, run);
            } else if (which < 26) {
                listAndTapeCall(which, x, model, run);
            } else {
                holderCall(which, x, model, run);
            }
        }
    }

    private static void fractionCall(int which, TurningFractions x, Model model, int run) {
        int f = someFraction(model);
        int g = someFraction(model);
        int a = some(9999);
        int b = some(999);
        int base = someBase();
        switch (which) {
            case 0: case 1:
                due(run + " fraction " + a + " " + b + " " + base, x.fraction(a, b, base), model.fraction(a, b, base));
                break;
            case 2:
                f = any(3) == 0 ? f : -1;
                due(run + " drop " + f, x.drop(f), model.drop(f));
                break;
            case 3:
                due(run + " multiply " + f + " " + b, x.multiply(f, b), model.multiply(f, b));
                break;
            case 4: case 5:
                due(run + " sum " + f + " " + g, x.sum(f, g), model.sum(f, g));
                break;
            case 6:
                due(run + " lowest " + f, x.lowest(f), model.lowest(f));
                break;
            default:
                int what = any(9) - 1;
                due(run + " of " + f + " " + what, x.of(f, what), model.of(f, what));
        }
    }

    private static void turningCall(int which, TurningFractions x, Model model, int run) {
        int f = someFraction(model);
        int length = f >= 0 && f < model.fractions.size() ? model.fractions.get(f).length : 1;
        int i = some(9999);
        int k = any(2) == 0 ? some(length) : 1 + any(3);
        switch (which) {
            case 9:
                due(run + " digit " + f + " " + i, x.digit(f, i), model.digit(f, i));
                break;
            case 10:
                due(run + " rest " + f + " " + i, x.rest(f, i), model.rest(f, i));
                break;
            case 11:
                i = some(15);
                due(run + " place " + f + " " + i, x.place(f, i), model.place(f, i));
                break;
            case 12:
                i = some(length) - 1;
                due(run + " block " + f + " " + k + " " + i, x.block(f, k, i), model.block(f, k, i));
                break;
            case 13:
                due(run + " nines " + f + " " + k, x.nines(f, k), model.nines(f, k));
                break;
            case 14:
                i = some(999);
                due(run + " shift " + f + " " + i, x.shift(f, i), model.shift(f, i));
                break;
            case 15:
                i = any(20) == 0 ? some(length) : -1 + any(2);
                due(run + " multiple " + f + " " + i, x.multiple(f, i), model.multiple(f, i));
                break;
            case 16:
                int base = someBase();
                due(run + " order " + base + " " + i, x.order(base, i), model.order(base, i));
                break;
            default:
                int kind = some(5);
                int v = some(99);
                due(run + " tells " + f + " " + kind + " " + v, x.tells(f, kind, v), model.tells(f, kind, v));
        }
    }

    private static void listAndTapeCall(int which, TurningFractions x, Model model, int run) {
        int base = someBase();
        int f = someFraction(model);
        int i = some(30);
        switch (which) {
            case 18:
                i = some(999);
                int what = any(4) - 1;
                due(run + " cycles " + base + " " + i, x.cycles(base, i, what), model.cycles(base, i, what));
                break;
            case 19:
                int from = some(999);
                int to = any(2) == 0 ? from + any(30) : some(999);
                what = any(5) - 1;
                due(run + " full " + base + " " + from + " " + to, x.full(base, from, to, what), model.full(base, from, to, what));
                break;
            case 20:
                i = any(8) == 0 ? some(400) : -1;
                due(run + " list " + i + " " + base, x.list(i, base), model.list(i, base));
                break;
            case 21:
                due(run + " listed " + i, x.listed(i), model.listed(i));
                break;
            case 22:
                int v = any(1 << 30) * (any(2) * 2 - 1) * 3;
                i = any(7) - 1;
                for (int times = any(6) == 0 ? 21 : 1; times > 0; times--) {
                    due(run + " feed " + v + " " + i, x.feed(v, i), model.feed(v, i));
                }
                break;
            case 23:
                due(run + " spell " + f + " " + (i - 1), x.spell(f, i - 1), model.spell(f, i - 1));
                break;
            case 24:
                what = any(6) - 1;
                due(run + " count " + what, x.count(what), model.count(what));
                break;
            default:
                textCall(any(6), x, model, run);
        }
    }

    private static void holderCall(int which, TurningFractions x, Model model, int run) {
        int h = someHolder();
        int f = someFraction(model);
        int i = any(6) == 0 ? some(41) : any(5);
        switch (which) {
            case 26:
                due(run + " hold " + h + " " + f, x.hold(h, f), model.hold(h, f));
                break;
            case 27:
                h = any(3) == 0 ? h : 6;
                due(run + " lose " + h, x.lose(h), model.lose(h));
                break;
            case 28:
                int kind = any(6) - 1;
                due(run + " taken " + h + " " + kind, x.taken(h, kind), model.taken(h, kind));
                break;
            case 29:
                i = some(9999);
                due(run + " was " + h + " " + i, x.was(h, i), model.was(h, i));
                break;
            case 30:
                i = any(3) == 0 ? some(40) : any(7) - 2;
                due(run + " row " + h + " " + i, x.row(h, i), model.row(h, i));
                break;
            case 31:
                int v = any(2) == 0 ? model.digit(f, i) : some(1000000);
                due(run + " put " + h + " " + i + " " + v, x.put(h, i, v), model.put(h, i, v));
                break;
            case 32:
                due(run + " get " + h + " " + i, x.get(h, i), model.get(h, i));
                break;
            case 33: case 34:
                due(run + " judge " + h + " " + f, x.judge(h, f), model.judge(h, f));
                break;
            default:
                if (any(3) == 0) {
                    due(run + " image", x.image(), model.image());
                } else if (any(3) == 0) {
                    due(run + " undo", x.undo(), model.undo());
                }
        }
    }

    // ---- texts

    private static void textRun(int run) {
        TurningFractions x = new TurningFractions();
        Model model = new Model();
        int lists = any(2);
        if (lists == 1) {
            due("list", x.list(60, 10), model.list(60, 10));
        }
        for (int n = 0; n < 18; n++) {
            textCall(any(7), x, model, run);
            if (model.fractions.size() > 5) {
                due("drop", x.drop(0), model.drop(0));
            }
            for (int f = -1; f <= model.fractions.size(); f++) {
                due(run + " then A of " + f, x.of(f, 0), model.of(f, 0));
                due(run + " then B of " + f, x.of(f, 1), model.of(f, 1));
            }
        }
    }

    private static void textCall(int which, TurningFractions x, Model model, int run) {
        if (any(3) > 0) {
            due(run + " wipe", x.wipe(), model.wipe());
        }
        int base = someBase();
        String text;
        switch (which) {
            case 0: case 1: case 2:
                text = spoiled(numeral(base));
                feed(x, model, text);
                due(run + " read " + base + " " + text, x.read(base), model.read(base));
                break;
            case 3: case 4: case 5:
                text = spoiled(script(model));
                feed(x, model, text);
                due(run + " run " + text, x.run(), model.run());
                break;
            default:
                text = Model.WORDS[any(Model.WORDS.length)];
                text = spoiled(any(3) == 0 ? "not " + text : text);
                feed(x, model, text);
                due(run + " thin " + text, x.thin(), model.thin());
        }
        due(run + " tape", x.count(3), model.count(3));
    }

    private static String spoiled(String text) {
        if (any(3) > 0 || text.isEmpty()) {
            return text;
        }
        String signs = "0123456789abcdefgz .();newdropmulsumlowN\u0000\u00ff";
        int i = any(text.length());
        char sign = signs.charAt(any(signs.length()));
        switch (any(4)) {
            case 0:
                return text.substring(0, i);
            case 1:
                return text.substring(0, i) + sign + text.substring(i);
            case 2:
                return text.substring(0, i) + sign + text.substring(i + 1);
            default:
                return text + sign;
        }
    }

    private static String digits(int base, int least) {
        StringBuilder digits = new StringBuilder();
        int most = any(12) == 0 ? 6 : 4;
        for (int n = least + any(most - least + 1); n > 0; n--) {
            digits.append(Character.forDigit(any(3) == 0 ? 0 : any(base), base));
        }
        return digits.toString();
    }

    private static String numeral(int base) {
        int g = base < 2 || base > 16 ? 10 : base;
        String text = any(2) == 0 ? "0" : digits(g, 1);
        if (any(8) == 0) {
            return text;
        }
        boolean short1 = any(2) == 0;
        text += "." + (short1 ? digits(g, 0).replaceAll("(?<=.).", "") : digits(g, any(5) == 0 ? 0 : 1));
        if (any(3) > 0) {
            text += "(" + (any(2) == 0 ? "" + Character.forDigit(any(g), g) : digits(g, 1)) + ")";
        }
        return text;
    }

    private static String script(Model model) {
        StringBuilder text = new StringBuilder();
        int size = Math.max(1, model.fractions.size());
        for (int n = any(4); n >= 0; n--) {
            int i = any(size);
            int j = any(size);
            switch (any(6)) {
                case 0: case 1:
                    text.append("new ").append(any(60)).append(' ').append(any(40)).append(' ').append(any(3) == 0 ? 2 + any(16) : 10);
                    break;
                case 2:
                    text.append(any(2) == 0 ? "drop " : "low ").append(i);
                    break;
                case 3:
                    text.append("mul ").append(i).append(' ').append(any(12) == 0 ? "0999" : "" + any(9));
                    break;
                case 4:
                    text.append("sum ").append(i).append(' ').append(j);
                    break;
                default:
                    text.append("low ").append(any(9) == 0 ? "00001" : "000" + i);
            }
            if (n > 0) {
                text.append(';');
            }
        }
        return text.toString();
    }

    // ---- the model

    /** A FRACTION told by all its RESTS, as the document's words say. */
    private static final class Turning {
        final long a;
        final int b;
        final int base;
        final int head;
        final int length;
        final List<Integer> rests = new ArrayList<>();

        Turning(long a, int b, int base) {
            this.a = a;
            this.b = b;
            this.base = base;
            Map<Integer, Integer> first = new HashMap<>();
            int rest = (int) (a % b);
            while (!first.containsKey(rest)) {
                first.put(rest, rests.size());
                rests.add(rest);
                rest = rest * base % b;
            }
            head = first.get(rest);
            length = rests.size() - head;
        }

        int restAt(int i) {
            return rests.get(i < rests.size() ? i : head + (i - head) % length);
        }

        int digitAt(int i) {
            return restAt(i) * base / b;
        }

        boolean ends() {
            return rests.contains(0);
        }

        int kind() {
            return ends() ? 0 : head == 0 ? 1 : 2;
        }

        String period() {
            StringBuilder period = new StringBuilder();
            for (int i = 0; i < length; i++) {
                period.append(Character.forDigit(digitAt(head + i), 16));
            }
            return period.toString();
        }

        String spelled() {
            StringBuilder text = new StringBuilder(Long.toString(a / b, base));
            if (rests.get(0) != 0) {
                text.append('.');
                for (int i = 0; i < head; i++) {
                    text.append(Character.forDigit(digitAt(i), 16));
                }
            }
            return ends() ? text.toString() : text.append('(').append(period()).append(')').toString();
        }

        int place(int d) {
            for (int i = 0; i < 2100; i++) {
                if (digitAt(i) == d) {
                    return i;
                }
            }
            return -2;
        }

        BigInteger sumOfBlocks(int k) {
            String period = period();
            int w = length / k;
            BigInteger sum = BigInteger.ZERO;
            for (int i = 0; i < k; i++) {
                sum = sum.add(new BigInteger(period.substring(i * w, i * w + w), base));
            }
            return sum;
        }

        int block(int k, int j) {
            if (k < 1 || k > length || length % k != 0 || j < -1 || j >= length / k) {
                return -1;
            }
            BigInteger g = BigInteger.valueOf(base);
            BigInteger sum = sumOfBlocks(k);
            return j < 0 ? sum.divide(g.pow(length / k)).intValue() : sum.divide(g.pow(j)).mod(g).intValue();
        }

        int nines(int k) {
            if (k < 1 || k > length || length % k != 0) {
                return -1;
            }
            BigInteger nines = BigInteger.valueOf(base).pow(length / k).subtract(BigInteger.ONE);
            BigInteger[] parts = sumOfBlocks(k).divideAndRemainder(nines);
            return parts[1].signum() == 0 ? parts[0].intValue() : -2;
        }

        int shift(int m) {
            if (m < 1 || m > 999) {
                return -1;
            }
            String mine = period();
            String other = new Turning(m * a, b, base).period();
            int s = other.length() == mine.length() ? (mine + mine).indexOf(other) : -1;
            return s < 0 ? -2 : s;
        }

        int multiple(int s) {
            if (s < 0 || s >= length) {
                return -1;
            }
            for (int m = 2; m <= 999; m++) {
                if (shift(m) == s) {
                    return m;
                }
            }
            return -2;
        }

        long tells(int kind, int v) {
            long together = 0;
            for (int i = 0; i < length; i++) {
                together += worth(kind, i, digitAt(head + i), v);
            }
            return together;
        }

        private static long worth(int kind, int i, int d, int v) {
            switch (kind) {
                case 0: return d;
                case 1: return worth(0, i, d, v) * (i + 1);
                case 2: return i % 2 == 0 ? worth(1, i, d, v) : 0 - worth(1, i, d, v);
                case 3: return worth(0, i, d, v) * worth(0, i, d, v);
                case 4: return worth(3, i, d, v) < v ? worth(3, i, d, v) : v;
                default: return worth(0, i, d, v) > v ? 1 : 0;
            }
        }
    }

    /** The whole bench. */
    private static final class Model {
        static final String[] WORDS = {"ends", "pure", "mixed", "full", "even", "odd", "half", "prime"};
        List<Turning> fractions = new ArrayList<>();
        List<Integer> list = new ArrayList<>();
        int listBase = 10;
        String tape = "";
        final Object[] holders = new Object[6];
        List<Turning> keptFractions = null;
        List<Integer> keptList = null;
        int keptBase = 10;

        private boolean there(int f) {
            return f >= 0 && f < fractions.size();
        }

        private static boolean isBase(int base) {
            return base >= 2 && base <= 16;
        }

        private static int common(int a, int b) {
            return BigInteger.valueOf(a).gcd(BigInteger.valueOf(b)).intValue();
        }

        int fraction(int a, int b, int base) {
            if (a < 0 || a > 9999 || b < 1 || b > 999 || !isBase(base)) {
                return -1;
            }
            if (fractions.size() == 8) {
                return -3;
            }
            fractions.add(new Turning(a, b, base));
            return fractions.size() - 1;
        }

        int drop(int f) {
            if (!there(f)) {
                return -1;
            }
            fractions.remove(f);
            return fractions.size();
        }

        int multiply(int f, int m) {
            if (!there(f) || m < 0 || m > 999) {
                return -1;
            }
            Turning t = fractions.get(f);
            if (t.a * m > 9999) {
                return -6;
            }
            fractions.set(f, new Turning(t.a * m, t.b, t.base));
            return (int) (t.a * m);
        }

        private int more(BigInteger a, BigInteger b, int base) {
            BigInteger common = a.gcd(b);
            BigInteger one = a.divide(common);
            BigInteger other = b.divide(common);
            if (one.compareTo(BigInteger.valueOf(9999)) > 0 || other.compareTo(BigInteger.valueOf(999)) > 0) {
                return -6;
            }
            return fraction(one.intValue(), other.intValue(), base);
        }

        int sum(int i, int j) {
            if (!there(i) || !there(j)) {
                return -1;
            }
            Turning s = fractions.get(i);
            Turning t = fractions.get(j);
            if (s.base != t.base) {
                return -5;
            }
            return more(BigInteger.valueOf(s.a * t.b + t.a * s.b), BigInteger.valueOf((long) s.b * t.b), s.base);
        }

        int lowest(int f) {
            if (!there(f)) {
                return -1;
            }
            Turning t = fractions.get(f);
            int common = common((int) t.a, t.b);
            fractions.set(f, new Turning(t.a / common, t.b / common, t.base));
            return t.b / common;
        }

        int of(int f, int what) {
            if (!there(f) || what < 0 || what > 6) {
                return -1;
            }
            Turning t = fractions.get(f);
            return new int[] {(int) t.a, t.b, t.base, (int) (t.a / t.b), t.head, t.length, t.kind()}[what];
        }

        int digit(int f, int i) {
            return !there(f) || i < 0 || i > 9999 ? -1 : fractions.get(f).digitAt(i);
        }

        int rest(int f, int i) {
            return !there(f) || i < 0 || i > 9999 ? -1 : fractions.get(f).restAt(i);
        }

        int place(int f, int d) {
            return !there(f) || d < 0 || d >= fractions.get(f).base ? -1 : fractions.get(f).place(d);
        }

        int block(int f, int k, int j) {
            return there(f) ? fractions.get(f).block(k, j) : -1;
        }

        int nines(int f, int k) {
            return there(f) ? fractions.get(f).nines(k) : -1;
        }

        int shift(int f, int m) {
            return there(f) ? fractions.get(f).shift(m) : -1;
        }

        int multiple(int f, int s) {
            return there(f) ? fractions.get(f).multiple(s) : -1;
        }

        int order(int base, int b) {
            if (!isBase(base) || b < 1 || b > 9999) {
                return -1;
            }
            if (common(base, b) > 1) {
                return -2;
            }
            int k = 1;
            long power = base % b;
            while (power != 1 % b) {
                power = power * base % b;
                k++;
            }
            return k;
        }

        int cycles(int base, int b, int what) {
            if (!isBase(base) || b < 2 || b > 999 || what < 0 || what > 1) {
                return -1;
            }
            if (common(base, b) > 1) {
                return -5;
            }
            int rings = 0;
            int longest = 0;
            for (int x = 1; x < b; x++) {
                int size = 1;
                boolean least = true;
                for (int y = x * base % b; y != x; y = y * base % b) {
                    size++;
                    least &= y > x;
                }
                rings += least ? 1 : 0;
                longest = Math.max(longest, size);
            }
            return what == 0 ? rings : longest;
        }

        private static boolean isFull(int b, int base) {
            Turning t = new Turning(1, b, base);
            return !t.ends() && t.length == b - 1;
        }

        int full(int base, int from, int to, int what) {
            if (!isBase(base) || from < 2 || from > 999 || to < 2 || to > 999 || from > to || what < 0 || what > 2) {
                return -1;
            }
            List<Integer> found = new ArrayList<>();
            for (int b = from; b <= to; b++) {
                if (isFull(b, base)) {
                    found.add(b);
                }
            }
            if (what == 0) {
                return found.size();
            }
            return found.isEmpty() ? -2 : found.get(what == 1 ? 0 : found.size() - 1);
        }

        int list(int n, int base) {
            if (n < 2 || n > 400 || !isBase(base)) {
                return -1;
            }
            list = new ArrayList<>();
            for (int b = 2; b <= n; b++) {
                list.add(b);
            }
            listBase = base;
            return list.size();
        }

        int thin() {
            String word = tape;
            tape = "";
            boolean denied = word.startsWith("not ");
            word = denied ? word.substring(4) : word;
            if (!List.of(WORDS).contains(word)) {
                return -1;
            }
            List<Integer> left = new ArrayList<>();
            for (int b : list) {
                if (isSo(word, b) != denied) {
                    left.add(b);
                }
            }
            list = left;
            return list.size();
        }

        private boolean isSo(String word, int b) {
            Turning t = new Turning(1, b, listBase);
            switch (word) {
                case "ends": return t.ends();
                case "pure": return t.kind() == 1;
                case "mixed": return t.kind() == 2;
                case "full": return isFull(b, listBase);
                case "even": return !t.ends() && t.length % 2 == 0;
                case "odd": return !t.ends() && t.length % 2 == 1;
                case "half": return !t.ends() && t.length % 2 == 0 && t.nines(2) == 1;
                default: return BigInteger.valueOf(b).isProbablePrime(50);
            }
        }

        int listed(int i) {
            return i < 0 ? -1 : i < list.size() ? list.get(i) : -2;
        }

        long tells(int f, int kind, int v) {
            boolean bad = !there(f) || kind < 0 || kind > 5 || v < 0 || v > 99;
            return bad ? Long.MIN_VALUE : fractions.get(f).tells(kind, v);
        }

        int feed(int v, int n) {
            if (n < 1 || n > 4) {
                return -1;
            }
            if (tape.length() + n > 80) {
                return -3;
            }
            for (int i = n - 1; i >= 0; i--) {
                tape += (char) (v >> (8 * i) & 0xff);
            }
            return tape.length();
        }

        int wipe() {
            int had = tape.length();
            tape = "";
            return had;
        }

        int spell(int f, int i) {
            if (!there(f) || i < -1) {
                return -1;
            }
            String text = fractions.get(f).spelled();
            return i == -1 ? text.length() : i < text.length() ? text.charAt(i) : -2;
        }

        /** Where no text of the pattern goes on so; -1, if the text is one. */
        private static int fault(Pattern pattern, String text) {
            for (int end = 1; end <= text.length(); end++) {
                Matcher matcher = pattern.matcher(text.substring(0, end));
                if (!matcher.matches() && !matcher.hitEnd()) {
                    return end - 1;
                }
            }
            return pattern.matcher(text).matches() ? -1 : text.length();
        }

        int read(int base) {
            if (!isBase(base)) {
                return -1;
            }
            String text = tape;
            tape = "";
            String d = "[" + "0123456789abcdef".substring(0, base) + "]";
            String some = d + "{1,4}";
            String again = "\\(" + some + "\\)";
            Pattern pattern = Pattern.compile(some + "(\\.(" + some + "(" + again + ")?|" + again + "))?", Pattern.DOTALL);
            int fault = fault(pattern, text);
            return fault >= 0 ? -1000 - fault : worth(text, base);
        }

        private int worth(String text, int base) {
            String[] parts = (text.replace('(', '.').replace(")", "") + "..").split("\\.", -1);
            BigInteger g = BigInteger.valueOf(base);
            String behind = parts[1];
            BigInteger a = new BigInteger(parts[0] + behind, base);
            BigInteger b = g.pow(behind.length());
            String again = parts[2];
            if (!again.isEmpty()) {
                BigInteger nines = g.pow(again.length()).subtract(BigInteger.ONE);
                a = a.multiply(nines).add(new BigInteger(again, base));
                b = b.multiply(nines);
            }
            return more(a, b, base);
        }

        int run() {
            String text = tape;
            tape = "";
            String n = " [0-9]{1,4}";
            String command = "(new" + n + n + n + "|(mul|sum)" + n + n + "|(drop|low)" + n + ")";
            int fault = fault(Pattern.compile(command + "(;" + command + ")*", Pattern.DOTALL), text);
            if (fault >= 0) {
                int begin = text.substring(0, fault).lastIndexOf(';') + 1;
                int end = begin;
                while (end < text.length() && text.charAt(end) >= 'a' && text.charAt(end) <= 'z') {
                    end++;
                }
                boolean word = List.of("new", "drop", "mul", "sum", "low").contains(text.substring(begin, end));
                return -1000 - (word ? fault : begin);
            }
            int done = 0;
            for (String one : text.split(";")) {
                if (does(one.split(" ")) < 0) {
                    return -2000 - done;
                }
                done++;
            }
            return done;
        }

        private int does(String[] w) {
            int first = Integer.parseInt(w[1]);
            int second = w.length > 2 ? Integer.parseInt(w[2]) : 0;
            switch (w[0]) {
                case "new": return fraction(first, second, Integer.parseInt(w[3]));
                case "drop": return drop(first);
                case "mul": return multiply(first, second);
                case "sum": return sum(first, second);
                default: return lowest(first);
            }
        }

        private static boolean isHolder(int h) {
            return h >= 0 && h < 6;
        }

        int hold(int h, int f) {
            if (!isHolder(h) || !there(f)) {
                return -1;
            }
            holders[h] = fractions.get(f);
            return fractions.get(f).kind();
        }

        int lose(int h) {
            if (!isHolder(h)) {
                return -1;
            }
            Object held = holders[h];
            holders[h] = null;
            return held == null ? 0 : held instanceof Turning ? 1 : 2;
        }

        int taken(int h, int kind) {
            if (!isHolder(h) || kind < 0 || kind > 3) {
                return -1;
            }
            if (holders[h] == null) {
                return -11;
            }
            if (!(holders[h] instanceof Turning)) {
                return -12;
            }
            Turning t = (Turning) holders[h];
            if (kind > 0 && t.kind() != kind - 1) {
                return -12;
            }
            return kind == 0 ? (int) t.a : kind == 2 ? t.length : t.head;
        }

        int was(int h, int i) {
            if (!isHolder(h) || i < 0 || i > 9999) {
                return -1;
            }
            return holders[h] == null ? -11 : holders[h] instanceof Turning ? ((Turning) holders[h]).digitAt(i) : -12;
        }

        int row(int h, int n) {
            if (!isHolder(h) || n > 40) {
                return -1;
            }
            if (n < 0) {
                return -14;
            }
            holders[h] = new int[n];
            return n;
        }

        int put(int h, int i, int v) {
            if (!isHolder(h)) {
                return -1;
            }
            if (!(holders[h] instanceof int[])) {
                return holders[h] == null ? -11 : -12;
            }
            int[] row = (int[]) holders[h];
            if (i < 0 || i >= row.length) {
                return -13;
            }
            row[i] = v;
            return 1;
        }

        long get(int h, int i) {
            if (!isHolder(h) || !(holders[h] instanceof int[])) {
                return Long.MIN_VALUE;
            }
            int[] row = (int[]) holders[h];
            return i < 0 || i >= row.length ? Long.MIN_VALUE : row[i];
        }

        int judge(int h, int f) {
            if (!isHolder(h) || !there(f)) {
                return -1;
            }
            if (!(holders[h] instanceof int[])) {
                return holders[h] == null ? -11 : -12;
            }
            int[] row = (int[]) holders[h];
            for (int i = 0; i < row.length; i++) {
                if (row[i] != fractions.get(f).digitAt(i)) {
                    return i;
                }
            }
            return -2;
        }

        int image() {
            keptFractions = new ArrayList<>(fractions);
            keptList = new ArrayList<>(list);
            keptBase = listBase;
            return fractions.size();
        }

        int undo() {
            if (keptFractions == null) {
                return -5;
            }
            fractions = new ArrayList<>(keptFractions);
            list = new ArrayList<>(keptList);
            listBase = keptBase;
            return fractions.size();
        }

        int count(int what) {
            return what < 0 || what > 3 ? -1 : new int[] {fractions.size(), list.size(), listBase, tape.length()}[what];
        }
    }
}
