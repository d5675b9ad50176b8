import java.util.ArrayList;
import java.util.List;

/**
 * "Of several the first that the call's words name. What is refused so changes nothing, but where
 * it is told." Each refusal is asked of a bench on which everything holds something; a twin of it
 * that was not asked must be the same afterwards. The part of a test's name ahead of the : is the
 * promise that tells the refusal.
 */
public final class RefusalTest {
    private static final int BAD = -1, NOT = -2, FULL = -3, STATE = -5, WIDE = -6;
    private static final int NOTHING = -11, OTHER = -12, NO_PLACE = -13, BELOW_0 = -14;
    private static final long NO = Long.MIN_VALUE;
    private static int wrong = 0;
    private static int asked = 0;

    private interface Call {
        long on(TurningFractions x);
    }

    public static void main(String[] args) {
        theBenchTellsWhatChanged();
        fractions();
        sums();
        places();
        blocksAndShifts();
        orders();
        lists();
        tellers();
        tapes();
        numerals();
        scripts();
        holders();
        rows();
        images();
        benchesWithAnEmptyPart();
        System.out.println("RefusalTest: " + asked + " refusals, " + wrong + " wrong");
        if (wrong != 0) {
            System.exit(1);
        }
    }

    // ---- the bench and what it tells

    /** Five FRACTIONS, a LIST, a TAPE, HOLDERS of each sort, and THE IMAGE of another state. */
    private static TurningFractions busy() {
        TurningFractions x = new TurningFractions();
        x.fraction(1, 3, 10);
        x.fraction(3, 4, 12);
        x.list(5, 7);
        x.image();
        x.drop(0);
        x.drop(0);
        x.fraction(1, 7, 10);
        x.fraction(3, 8, 10);
        x.fraction(5, 12, 10);
        x.fraction(9999, 1, 10);
        x.fraction(9998, 997, 9);
        x.list(9, 8);
        feed(x, "not ends");
        x.thin();
        x.hold(0, 0);
        x.hold(1, 1);
        x.hold(2, 2);
        x.row(3, 3);
        x.put(3, 1, 4);
        x.row(4, 0);
        feed(x, "12.5");
        return x;
    }

    private static TurningFractions busyWith8() {
        TurningFractions x = busy();
        for (int f = 5; f < 8; f++) {
            x.fraction(f, 11, 10);
        }
        return x;
    }

    private static TurningFractions busyWithTape(String text) {
        TurningFractions x = busy();
        x.wipe();
        feed(x, text);
        return x;
    }

    private static TurningFractions busyWith8AndTape(String text) {
        TurningFractions x = busyWith8();
        x.wipe();
        feed(x, text);
        return x;
    }

    private static TurningFractions busyWithFullTape() {
        TurningFractions x = busyWithTape("");
        feed(x, "low 0;low 0;low 0;low 0;low 0;low 0;low 0;low 0;low 0;low 0;low 0;low 0;low 0000");
        return x;
    }

    private static void feed(TurningFractions x, String text) {
        for (int i = 0; i < text.length(); i++) {
            x.feed(text.charAt(i), 1);
        }
    }

    /** All that calls tell of a bench, which is used up by it. */
    private static String told(TurningFractions x) {
        StringBuilder told = new StringBuilder();
        tellFractionsAndList(x, told);
        told.append(" HOLDERS");
        for (int h = 0; h < 6; h++) {
            tellHolder(x, h, told);
        }
        told.append(" TAPE ").append(x.count(3));
        tellTape(x, told);
        told.append(" IMAGE ").append(x.undo());
        tellFractionsAndList(x, told);
        return told.toString();
    }

    private static void tellFractionsAndList(TurningFractions x, StringBuilder told) {
        told.append(" FRACTIONS ").append(x.count(0));
        for (int f = 0; f < x.count(0); f++) {
            told.append(' ').append(x.of(f, 0)).append('/').append(x.of(f, 1)).append(" in ").append(x.of(f, 2));
            told.append(" turns ").append(x.of(f, 4)).append(',').append(x.of(f, 5)).append(',').append(x.rest(f, 9999));
        }
        told.append(" LIST in ").append(x.count(2)).append(':');
        for (int i = 0; i < x.count(1); i++) {
            told.append(' ').append(x.listed(i));
        }
    }

    private static void tellHolder(TurningFractions x, int h, StringBuilder told) {
        told.append(" [").append(x.taken(h, 0)).append(' ').append(x.taken(h, 1)).append(' ').append(x.taken(h, 2));
        told.append(' ').append(x.taken(h, 3)).append(' ').append(x.was(h, 0)).append(' ').append(x.was(h, 1));
        for (int i = 0; i < 5; i++) {
            told.append(' ').append(x.get(h, i));
        }
        told.append(' ').append(x.lose(h)).append(']');
    }

    /** The bytes show in what a SCRIPT does or where its FAULT is, and in what a NUMERAL is worth. */
    private static void tellTape(TurningFractions x, StringBuilder told) {
        if (x.count(0) == 8) {
            x.drop(7);
        }
        if (x.count(3) > 20) {
            told.append(" run ").append(x.run());
            return;
        }
        int f = x.read(10);
        told.append(" read ").append(f).append(' ').append(x.of(f, 0)).append('/').append(x.of(f, 1));
    }

    // ---- how a refusal is asked

    /** A refused call, asked of a bench; what it leaves must be as on the twin. */
    private static void refused(String test, TurningFractions x, TurningFractions twin, Call call, long want) {
        asked++;
        long got = call.on(x);
        if (got != want) {
            tell(test + ": answered " + got + ", due is " + want);
        }
        String left = told(x);
        String due = told(twin);
        if (!left.equals(due)) {
            tell(test + ": left\n  " + left + "\ndue is\n  " + due);
        }
    }

    private static void refused(String test, Call call, long want) {
        refused(test, busy(), busy(), call, want);
        // the call once more: nor does the second time change anything
        refused(test + ", twice", busy(), busy(), x -> call.on(x) == want ? call.on(x) : 0, want);
    }

    private static void refusedWith8(String test, Call call, long want) {
        refused(test, busyWith8(), busyWith8(), call, want);
    }

    /** THE TAPE is empty behind the refusal; all else is as it was. */
    private static void refusedWithTape(String test, String text, Call call, long want) {
        refused(test + " " + text, busyWithTape(text), busyWithTape(""), call, want);
    }

    private static void tell(String what) {
        wrong++;
        System.out.println(what);
    }

    /** The twin would be of no use, if told() overlooked something. */
    private static void theBenchTellsWhatChanged() {
        List<Call> changes = new ArrayList<>();
        changes.add(x -> x.multiply(4, 0));
        changes.add(x -> x.drop(4));
        changes.add(x -> x.lowest(0) + x.fraction(1, 1, 2));
        changes.add(x -> x.list(9, 8));
        changes.add(x -> x.list(9, 9));
        changes.add(x -> x.wipe());
        changes.add(x -> x.feed('5', 1));
        changes.add(x -> x.wipe() + x.feed(0x31322e36, 4));
        changes.add(x -> x.image());
        changes.add(x -> x.undo());
        for (int h = 0; h < 5; h++) {
            int holder = h;
            changes.add(x -> x.lose(holder));
            changes.add(x -> x.row(holder, 2));
            changes.add(x -> x.hold(holder, 4));
        }
        changes.add(x -> x.put(3, 0, 1));
        String due = told(busy());
        for (int i = 0; i < changes.size(); i++) {
            TurningFractions x = busy();
            changes.get(i).on(x);
            if (told(x).equals(due)) {
                tell("told() overlooks change " + i);
            }
        }
        if (!told(busy()).equals(due)) {
            tell("told() is not always the same");
        }
    }

    // ---- fractions

    private static void fractions() {
        refused("promise 2: a below 0", x -> x.fraction(-1, 1, 10), BAD);
        refused("promise 2: a above 9999", x -> x.fraction(10000, 1, 10), BAD);
        refused("promise 2: b below 1", x -> x.fraction(1, 0, 10), BAD);
        refused("promise 2: b above 999", x -> x.fraction(1, 1000, 10), BAD);
        refused("promise 2: base below 2", x -> x.fraction(1, 1, 1), BAD);
        refused("promise 2: base above 16", x -> x.fraction(1, 1, 17), BAD);
        refusedWith8("promise 2: there are 8", x -> x.fraction(1, 1, 10), FULL);
        refusedWith8("promise 2: BAD a ahead of FULL", x -> x.fraction(-1, 1, 10), BAD);
        refusedWith8("promise 2: BAD b ahead of FULL", x -> x.fraction(1, 0, 10), BAD);
        refusedWith8("promise 2: BAD base ahead of FULL", x -> x.fraction(1, 1, 17), BAD);
        refused("promise 3: none of this number", x -> x.drop(5), BAD);
        refused("promise 3: a number below 0", x -> x.drop(-1), BAD);
        refusedWith8("promise 3: number 8", x -> x.drop(8), BAD);
        refused("promise 4: no such fraction", x -> x.multiply(5, 2), BAD);
        refused("promise 4: m below 0", x -> x.multiply(0, -1), BAD);
        refused("promise 4: m above 999", x -> x.multiply(0, 1000), BAD);
        refused("promise 4: A above 9999", x -> x.multiply(3, 2), WIDE);
        refused("promise 4: BAD ahead of WIDE", x -> x.multiply(3, 1000), BAD);
        refused("promise 4: BAD ahead of WIDE below 0", x -> x.multiply(3, -2), BAD);
        refused("promise 6: no such fraction", x -> x.lowest(5), BAD);
        refused("promise 6: a number below 0", x -> x.lowest(-1), BAD);
        refused("promise 7: no such fraction", x -> x.of(5, 0), BAD);
        refused("promise 7: what below 0", x -> x.of(0, -1), BAD);
        refused("promise 7: what above 6", x -> x.of(0, 7), BAD);
    }

    private static void sums() {
        refused("promise 5: no first one", x -> x.sum(5, 0), BAD);
        refused("promise 5: no other one", x -> x.sum(0, 5), BAD);
        refused("promise 5: BAD ahead of STATE", x -> x.sum(-1, 4), BAD);
        refused("promise 5: unlike bases", x -> x.sum(0, 4), STATE);
        refused("promise 5: unlike bases, the other way", x -> x.sum(4, 0), STATE);
        refused("promise 5: STATE ahead of WIDE", x -> x.sum(3, 4), STATE);
        refused("promise 5: A above 9999", x -> x.sum(3, 3), WIDE);
        refused("promise 5: A above 9999 by little", x -> x.sum(3, 0), WIDE);
        refusedWith8("promise 5: there are 8", x -> x.sum(0, 0), FULL);
        refusedWith8("promise 5: BAD ahead of FULL", x -> x.sum(0, 8), BAD);
        refusedWith8("promise 5: STATE ahead of FULL", x -> x.sum(0, 4), STATE);
        refusedWith8("promise 5: STATE ahead of WIDE and FULL", x -> x.sum(3, 4), STATE);
        refusedWith8("promise 5: WIDE ahead of FULL", x -> x.sum(3, 3), WIDE);
    }

    private static void places() {
        refused("promise 8: no such fraction", x -> x.digit(5, 0), BAD);
        refused("promise 8: i below 0", x -> x.digit(0, -1), BAD);
        refused("promise 8: i above 9999", x -> x.digit(0, 10000), BAD);
        refused("promise 9: no such fraction", x -> x.rest(5, 0), BAD);
        refused("promise 9: i below 0", x -> x.rest(0, -1), BAD);
        refused("promise 9: i above 9999", x -> x.rest(0, 10000), BAD);
        refused("promise 10: no such fraction", x -> x.place(5, 0), BAD);
        refused("promise 10: d below 0", x -> x.place(0, -1), BAD);
        refused("promise 10: d not below the base", x -> x.place(4, 9), BAD);
        refused("promise 10: at none", x -> x.place(0, 9), NOT);
    }

    private static void blocksAndShifts() {
        refused("promise 11: no such fraction", x -> x.block(5, 1, 0), BAD);
        refused("promise 11: k below 1", x -> x.block(0, 0, 0), BAD);
        refused("promise 11: k above LENGTH", x -> x.block(0, 7, 0), BAD);
        refused("promise 11: k does not part LENGTH", x -> x.block(0, 4, 0), BAD);
        refused("promise 11: j below -1", x -> x.block(0, 2, -2), BAD);
        refused("promise 11: j above w less 1", x -> x.block(0, 2, 3), BAD);
        refused("promise 12: no such fraction", x -> x.nines(5, 1), BAD);
        refused("promise 12: k below 1", x -> x.nines(0, 0), BAD);
        refused("promise 12: k does not part LENGTH", x -> x.nines(0, 5), BAD);
        refused("promise 12: there is none", x -> x.nines(0, 1), NOT);
        refused("promise 13: no such fraction", x -> x.shift(5, 1), BAD);
        refused("promise 13: m below 1", x -> x.shift(0, 0), BAD);
        refused("promise 13: m above 999", x -> x.shift(0, 1000), BAD);
        refused("promise 13: there is none", x -> x.shift(0, 7), NOT);
        refused("promise 14: no such fraction", x -> x.multiple(5, 0), BAD);
        refused("promise 14: s below 0", x -> x.multiple(0, -1), BAD);
        refused("promise 14: s above LENGTH less 1", x -> x.multiple(0, 6), BAD);
    }

    private static void orders() {
        refused("promise 15: base below 2", x -> x.order(1, 7), BAD);
        refused("promise 15: base above 16", x -> x.order(17, 7), BAD);
        refused("promise 15: b below 1", x -> x.order(10, 0), BAD);
        refused("promise 15: a common divisor", x -> x.order(10, 12), NOT);
        refused("promise 15: BAD base ahead of NOT", x -> x.order(18, 12), BAD);
        refused("promise 15: BAD b ahead of NOT", x -> x.order(10, 10000), BAD);
        refused("promise 16: a common divisor", x -> x.cycles(10, 12, 0), STATE);
        refused("promise 16: BAD base ahead of STATE", x -> x.cycles(18, 12, 0), BAD);
        refused("promise 16: BAD b ahead of STATE", x -> x.cycles(10, 1000, 0), BAD);
        refused("promise 16: BAD what ahead of STATE", x -> x.cycles(10, 12, 2), BAD);
        refused("promise 16: BAD what below 0 ahead of STATE", x -> x.cycles(10, 12, -1), BAD);
        refused("promise 17: there is none", x -> x.full(10, 8, 16, 1), NOT);
        refused("promise 17: there is none, the greatest", x -> x.full(10, 8, 16, 2), NOT);
        refused("promise 17: BAD base ahead of NOT", x -> x.full(17, 8, 9, 1), BAD);
        refused("promise 17: BAD from ahead of NOT", x -> x.full(10, 1, 2, 1), BAD);
        refused("promise 17: BAD to ahead of NOT", x -> x.full(10, 999, 1000, 1), BAD);
        refused("promise 17: from above to ahead of NOT", x -> x.full(10, 9, 8, 1), BAD);
        refused("promise 17: BAD what", x -> x.full(10, 8, 16, 3), BAD);
    }

    // ---- lists, tellers

    private static void lists() {
        refused("promise 18: n below 2", x -> x.list(1, 3), BAD);
        refused("promise 18: n above 400", x -> x.list(401, 3), BAD);
        refused("promise 18: base below 2", x -> x.list(5, 1), BAD);
        refused("promise 18: base above 16", x -> x.list(5, 17), BAD);
        String[] noWords = {"", "end", "not ", "not", "endsx", "not not ends", "12.5"};
        for (String word : noWords) {
            refusedWithTape("promise 19: no WORD", word, x -> x.thin(), BAD);
        }
        refused("promise 20: i below 0", x -> x.listed(-1), BAD);
        refused("promise 20: not as many", x -> x.listed(5), NOT);
    }

    private static void tellers() {
        refused("promise 21: no such fraction", x -> x.tells(5, 0, 0), NO);
        refused("promise 21: kind below 0", x -> x.tells(0, -1, 0), NO);
        refused("promise 21: kind above 5", x -> x.tells(0, 6, 0), NO);
        refused("promise 21: v below 0", x -> x.tells(0, 0, -1), NO);
        refused("promise 21: v above 99", x -> x.tells(0, 0, 100), NO);
    }

    // ---- texts

    private static void tapes() {
        refused("promise 22: n below 1", x -> x.feed('1', 0), BAD);
        refused("promise 22: n above 4", x -> x.feed('1', 5), BAD);
        for (int n = 1; n <= 4; n++) {
            int bytes = n;
            refused("promise 22: FULL by " + n, busyWithFullTape(), busyWithFullTape(), x -> x.feed('1', bytes), FULL);
        }
        refused("promise 22: BAD ahead of FULL", busyWithFullTape(), busyWithFullTape(), x -> x.feed('1', 5), BAD);
        refused("promise 22: BAD 0 ahead of FULL", busyWithFullTape(), busyWithFullTape(), x -> x.feed('1', 0), BAD);
        refused("promise 24: no such fraction", x -> x.spell(5, -1), BAD);
        refused("promise 24: i below -1", x -> x.spell(0, -2), BAD);
        refused("promise 24: not as many", x -> x.spell(0, 10), NOT);
        refused("promise 24: BAD ahead of NOT", x -> x.spell(5, 99), BAD);
    }

    private static void numerals() {
        refused("promise 25: base below 2", x -> x.read(1), BAD);
        refused("promise 25: base above 16", x -> x.read(17), BAD);
        // BAD comes ahead of the FAULT, of WIDE and of FULL, and leaves THE TAPE
        refused("promise 25: BAD ahead of a FAULT", busyWithTape("x"), busyWithTape("x"), x -> x.read(1), BAD);
        refused("promise 25: BAD ahead of WIDE", busyWithTape("0.0001"), busyWithTape("0.0001"), x -> x.read(0), BAD);
        refusedWith8("promise 25: BAD ahead of FULL", x -> x.read(17), BAD);
        refusedWithTape("promise 25: a FAULT", "12x", x -> x.read(10), -1002);
        refusedWithTape("promise 25: an empty TAPE", "", x -> x.read(10), -1000);
        refusedWithTape("promise 25: A above 9999", "9999.1", x -> x.read(10), WIDE);
        refusedWithTape("promise 25: B above 999", "0.0001", x -> x.read(10), WIDE);
        refusedWithTape("promise 25: a FAULT ahead of WIDE", "0.00010", x -> x.read(10), -1006);
        refused("promise 25: there are 8", busyWith8(), busyWith8AndTape(""), x -> x.read(10), FULL);
        refused("promise 25: a FAULT ahead of FULL", busyWith8AndTape("0."), busyWith8AndTape(""), x -> x.read(10), -1002);
        refused("promise 25: WIDE ahead of FULL", busyWith8AndTape("0.0001"), busyWith8AndTape(""), x -> x.read(10), WIDE);
    }

    private static void scripts() {
        String[] faulty = {"", "x", "mul 0 2;mul 1 2;", "drop 0;drop 0;drop 0;lo", "new 1 2 3;low", "low 0;low 00000"};
        int[] faults = {0, 0, 16, 21, 13, 14};
        for (int i = 0; i < faulty.length; i++) {
            refusedWithTape("promise 26: a FAULT, nothing is done", faulty[i], x -> x.run(), -1000 - faults[i]);
        }
        refusedWithTape("promise 26: a FAULT ahead of a refusal", "drop 9;x", x -> x.run(), -1007);
        refusedWithTape("promise 26: the first is refused", "drop 9;drop 0", x -> x.run(), -2000);
        refusedWithTape("promise 26: the first is WIDE", "mul 3 2;drop 0", x -> x.run(), -2000);
        refusedWithTape("promise 26: the first has unlike bases", "sum 0 4;drop 0", x -> x.run(), -2000);
        theDoneOnesStay("mul 0 2;drop 1;mul 9 1;drop 0", 2, x -> x.multiply(0, 2) + x.drop(1));
        theDoneOnesStay("new 2 4 6;low 5;sum 5 0;drop 0", 2, x -> x.fraction(2, 4, 6) + x.lowest(5));
        theDoneOnesStay("sum 0 0;sum 0 0;sum 0 0;sum 0 0;drop 0", 3, x -> x.sum(0, 0) + x.sum(0, 0) + x.sum(0, 0));
    }

    /** A SCRIPT of which so many are done till one is refused leaves what the same calls leave. */
    private static void theDoneOnesStay(String script, int done, Call same) {
        TurningFractions twin = busyWithTape("");
        same.on(twin);
        refused("promise 26: those ahead are done: " + script, busyWithTape(script), twin, x -> x.run(), -2000 - done);
    }

    // ---- holders, the image

    private static void holders() {
        refused("promise 27: no such holder", x -> x.hold(6, 0), BAD);
        refused("promise 27: a holder below 0", x -> x.hold(-1, 0), BAD);
        refused("promise 27: no such fraction", x -> x.hold(0, 5), BAD);
        refused("promise 27: no such fraction, for a ROW", x -> x.hold(3, -1), BAD);
        refused("promise 28: no such holder", x -> x.lose(6), BAD);
        refused("promise 28: a holder below 0", x -> x.lose(-1), BAD);
        refused("promise 29: no such holder", x -> x.taken(6, 0), BAD);
        refused("promise 29: kind above 3", x -> x.taken(0, 4), BAD);
        refused("promise 29: nothing is there", x -> x.taken(5, 0), NOTHING);
        refused("promise 29: a ROW", x -> x.taken(3, 0), OTHER);
        refused("promise 29: another KIND", x -> x.taken(0, 1), OTHER);
        refused("promise 29: BAD ahead of -11", x -> x.taken(5, 4), BAD);
        refused("promise 29: BAD ahead of -12", x -> x.taken(3, -1), BAD);
        refused("promise 30: no such holder", x -> x.was(6, 0), BAD);
        refused("promise 30: i above 9999", x -> x.was(0, 10000), BAD);
        refused("promise 30: nothing is there", x -> x.was(5, 0), NOTHING);
        refused("promise 30: a ROW", x -> x.was(3, 0), OTHER);
        refused("promise 30: BAD ahead of -11", x -> x.was(5, 10000), BAD);
        refused("promise 30: BAD ahead of -12", x -> x.was(3, -1), BAD);
    }

    private static void rows() {
        refused("promise 31: no such holder", x -> x.row(6, 1), BAD);
        refused("promise 31: n above 40", x -> x.row(3, 41), BAD);
        refused("promise 31: n below 0", x -> x.row(3, -1), BELOW_0);
        refused("promise 31: n below 0, for a FRACTION", x -> x.row(0, -1), BELOW_0);
        refused("promise 31: BAD holder ahead of -14", x -> x.row(6, -1), BAD);
        refused("promise 31: BAD holder below 0 ahead of -14", x -> x.row(-1, Integer.MIN_VALUE), BAD);
        refused("promise 32: no such holder", x -> x.put(6, 0, 1), BAD);
        refused("promise 32: nothing is there", x -> x.put(5, 0, 1), NOTHING);
        refused("promise 32: no ROW", x -> x.put(0, 0, 1), OTHER);
        refused("promise 32: no such place", x -> x.put(3, 3, 1), NO_PLACE);
        refused("promise 32: a place below 0", x -> x.put(3, -1, 1), NO_PLACE);
        refused("promise 32: a ROW of 0", x -> x.put(4, 0, 1), NO_PLACE);
        refused("promise 32: BAD ahead of -13", x -> x.put(6, -1, 1), BAD);
        refused("promise 32: -11 ahead of -13", x -> x.put(5, -1, 1), NOTHING);
        refused("promise 32: -12 ahead of -13", x -> x.put(0, 99, 1), OTHER);
        refused("promise 33: no such holder", x -> x.get(6, 0), NO);
        refused("promise 33: nothing is there", x -> x.get(5, 0), NO);
        refused("promise 33: no ROW", x -> x.get(0, 0), NO);
        refused("promise 33: no such place", x -> x.get(3, 3), NO);
        refused("promise 33: a place below 0", x -> x.get(3, -1), NO);
        refused("promise 34: no such holder", x -> x.judge(6, 0), BAD);
        refused("promise 34: no such fraction", x -> x.judge(3, 5), BAD);
        refused("promise 34: nothing is there", x -> x.judge(5, 0), NOTHING);
        refused("promise 34: no ROW", x -> x.judge(0, 0), OTHER);
        refused("promise 34: all are so", x -> x.judge(4, 0), NOT);
        refused("promise 34: BAD ahead of -11", x -> x.judge(5, 5), BAD);
        refused("promise 34: BAD ahead of -12", x -> x.judge(0, -1), BAD);
    }

    private static void images() {
        refused("promise 37: what below 0", x -> x.count(-1), BAD);
        refused("promise 37: what above 3", x -> x.count(4), BAD);
        refused("promise 36: none was kept", new TurningFractions(), new TurningFractions(), x -> x.undo(), STATE);
        refused("promise 36: none was kept of what is there", without(), without(), x -> x.undo(), STATE);
    }

    private static TurningFractions without() {
        TurningFractions x = new TurningFractions();
        x.fraction(1, 7, 10);
        x.list(5, 3);
        x.row(0, 2);
        return x;
    }

    private static void benchesWithAnEmptyPart() {
        List<Call> calls = new ArrayList<>();
        calls.add(x -> x.drop(0));
        calls.add(x -> x.multiply(0, 1));
        calls.add(x -> x.sum(0, 0));
        calls.add(x -> x.lowest(0));
        calls.add(x -> x.of(0, 0));
        calls.add(x -> x.digit(0, 0));
        calls.add(x -> x.rest(0, 0));
        calls.add(x -> x.place(0, 0));
        calls.add(x -> x.block(0, 1, 0));
        calls.add(x -> x.nines(0, 1));
        calls.add(x -> x.shift(0, 1));
        calls.add(x -> x.multiple(0, 0));
        calls.add(x -> x.spell(0, -1));
        calls.add(x -> x.hold(0, 0));
        calls.add(x -> x.judge(0, 0));
        calls.add(x -> x.thin());
        for (int i = 0; i < calls.size(); i++) {
            refused("answers: call " + i + " on a new object", new TurningFractions(), new TurningFractions(), calls.get(i), BAD);
        }
        refused("answers: tells on a new object", new TurningFractions(), new TurningFractions(), x -> x.tells(0, 0, 0), NO);
        refused("answers: listed on a new object", new TurningFractions(), new TurningFractions(), x -> x.listed(0), NOT);
        refused("answers: read on a new object", new TurningFractions(), new TurningFractions(), x -> x.read(10), -1000);
        refused("answers: run on a new object", new TurningFractions(), new TurningFractions(), x -> x.run(), -1000);
    }
}
