import java.util.ArrayList;
import java.util.List;

/**
 * A test for each sentence of the promises 1 to 37 that names a boundary; its name tells the
 * promise. Which refusal is told first, and what it leaves as it was, stands in RefusalTest.
 */
public final class BoundaryTest extends NamedTests {
    public static void main(String[] args) throws Exception {
        List<String> promises = new ArrayList<>();
        for (int n = 1; n <= 37; n++) {
            promises.add(String.format("promise%02d_", n));
        }
        runAll(BoundaryTest.class, promises);
    }

    private static void promise01_noFractions() {
        TurningFractions x = new TurningFractions();
        due(x.count(0), 0);
        due(x.of(0, 0), BAD);
        due(x.drop(0), BAD);
        due(x.image(), 0);
    }

    private static void promise01_theListIsEmpty() {
        TurningFractions x = new TurningFractions();
        due(x.count(1), 0);
        due(x.listed(0), NOT);
    }

    private static void promise01_theTapeIsEmpty() {
        TurningFractions x = new TurningFractions();
        due(x.count(3), 0);
        due(x.wipe(), 0);
        due(x.thin(), BAD);
        due(x.read(10), -1000);
        due(x.run(), -1000);
    }

    private static void promise01_noImageIsKept() {
        due(new TurningFractions().undo(), STATE);
    }

    private static void promise02_aFrom0() {
        TurningFractions x = new TurningFractions();
        due(x.fraction(-1, 1, 10), BAD);
        due(x.fraction(LEAST, 1, 10), BAD);
        due(x.fraction(0, 1, 10), 0);
        due(x.of(0, 0), 0);
    }

    private static void promise02_aTo9999() {
        TurningFractions x = new TurningFractions();
        due(x.fraction(10000, 1, 10), BAD);
        due(x.fraction(MOST, 1, 10), BAD);
        due(x.fraction(9999, 1, 10), 0);
        due(x.of(0, 0), 9999);
    }

    private static void promise02_bFrom1() {
        TurningFractions x = new TurningFractions();
        due(x.fraction(1, 0, 10), BAD);
        due(x.fraction(1, -1, 10), BAD);
        due(x.fraction(1, LEAST, 10), BAD);
        due(x.fraction(1, 1, 10), 0);
        due(x.of(0, 1), 1);
    }

    private static void promise02_bTo999() {
        TurningFractions x = new TurningFractions();
        due(x.fraction(1, 1000, 10), BAD);
        due(x.fraction(1, MOST, 10), BAD);
        due(x.fraction(1, 999, 10), 0);
        due(x.of(0, 1), 999);
    }

    private static void promise02_baseFrom2() {
        TurningFractions x = new TurningFractions();
        due(x.fraction(1, 7, 1), BAD);
        due(x.fraction(1, 7, 0), BAD);
        due(x.fraction(1, 7, LEAST), BAD);
        due(x.fraction(1, 7, 2), 0);
        due(x.of(0, 2), 2);
    }

    private static void promise02_baseTo16() {
        TurningFractions x = new TurningFractions();
        due(x.fraction(1, 7, 17), BAD);
        due(x.fraction(1, 7, MOST), BAD);
        due(x.fraction(1, 7, 16), 0);
        due(x.of(0, 2), 16);
    }

    private static void promise02_fullAt8() {
        TurningFractions x = with8();
        due(x.fraction(1, 7, 10), FULL);
        due(x.drop(7), 7);
        due(x.fraction(1, 7, 10), 7);
        due(x.fraction(1, 7, 10), FULL);
    }

    private static void promise02_aAndBAreKeptAsGiven() {
        due(fractionOf(with(2, 4, 10), 0), "2/4");
        due(fractionOf(with(0, 999, 10), 0), "0/999");
        due(fractionOf(with(9999, 999, 10), 0), "9999/999");
    }

    private static void promise03_theFirst() {
        TurningFractions x = with8();
        due(x.drop(0), 7);
        for (int f = 0; f < 7; f++) {
            due(x.of(f, 0), f + 2);
        }
        due(x.of(7, 0), BAD);
    }

    private static void promise03_theLast() {
        TurningFractions x = with8();
        due(x.drop(7), 7);
        for (int f = 0; f < 7; f++) {
            due(x.of(f, 0), f + 1);
        }
        due(x.of(7, 0), BAD);
    }

    private static void promise03_oneBetween() {
        TurningFractions x = with8();
        due(x.drop(3), 7);
        due(x.of(2, 0), 3);
        due(x.of(3, 0), 5);
        due(x.of(6, 0), 8);
    }

    private static void promise03_allOfThem() {
        TurningFractions x = with8();
        for (int left = 7; left >= 0; left--) {
            due(x.drop(0), left);
        }
        due(x.drop(0), BAD);
        due(x.fraction(1, 7, 10), 0);
    }

    private static void promise03_allOfAFractionGoesAlong() {
        TurningFractions x = with(9, 5, 7);
        x.fraction(1, 12, 10);
        x.fraction(5, 8, 2);
        due(x.drop(0), 2);
        int[] twelfth = {1, 12, 10, 0, 2, 1, 2};
        int[] eighths = {5, 8, 2, 0, 3, 1, 0};
        for (int what = 0; what < 7; what++) {
            due(x.of(0, what), twelfth[what]);
            due(x.of(1, what), eighths[what]);
        }
        due(x.rest(0, 2), 4);
        due(x.digit(0, 1), 8);
        due(x.block(0, 1, 0), 3);
        due(x.shift(0, 1), 0);
        due(x.shift(0, 4), 0);
    }

    private static void promise03_noSuchFraction() {
        TurningFractions x = with(1, 7, 10);
        due(x.drop(1), BAD);
        due(x.drop(-1), BAD);
        due(x.drop(8), BAD);
        due(x.drop(LEAST), BAD);
        due(x.drop(MOST), BAD);
        due(x.count(0), 1);
        due(with8().drop(8), BAD);
    }

    private static void promise04_mFrom0() {
        TurningFractions x = with(5, 7, 10);
        due(x.multiply(0, -1), BAD);
        due(x.multiply(0, LEAST), BAD);
        due(x.of(0, 0), 5);
        due(x.multiply(0, 0), 0);
        due(fractionOf(x, 0), "0/7");
    }

    private static void promise04_mTo999() {
        TurningFractions x = with(10, 7, 10);
        due(x.multiply(0, 1000), BAD);
        due(x.multiply(0, MOST), BAD);
        due(x.of(0, 0), 10);
        due(x.multiply(0, 999), 9990);
        x = with(0, 7, 10);
        due(x.multiply(0, 1000), BAD);
        due(x.multiply(0, 999), 0);
    }

    private static void promise04_wideAbove9999() {
        TurningFractions x = with(11, 14, 10);
        due(x.multiply(0, 910), WIDE);
        due(x.of(0, 0), 11);
        due(x.multiply(0, 909), 9999);
        due(x.multiply(0, 999), WIDE);
        due(x.multiply(0, 2), WIDE);
        due(x.multiply(0, 1), 9999);
    }

    private static void promise04_turnsAnew() {
        TurningFractions x = with(1, 28, 10);
        due(x.multiply(0, 2), 2);
        due(x.of(0, 4), 1);
        due(x.multiply(0, 2), 4);
        due(x.of(0, 4), 0);
        due(x.multiply(0, 7), 28);
        due(x.of(0, 5), 1);
        due(x.of(0, 1), 28);
    }

    private static void promise04_noSuchFraction() {
        TurningFractions x = with(1, 7, 10);
        due(x.multiply(1, 2), BAD);
        due(x.multiply(-1, 2), BAD);
        due(x.multiply(MOST, 2), BAD);
    }

    private static void promise05_oneTwice() {
        TurningFractions x = with(1, 7, 10);
        due(x.sum(0, 0), 1);
        due(fractionOf(x, 1), "2/7");
        due(fractionOf(x, 0), "1/7");
    }

    private static void promise05_unlikeBases() {
        TurningFractions x = with(1, 7, 10);
        x.fraction(1, 7, 11);
        due(x.sum(0, 1), STATE);
        due(x.sum(1, 0), STATE);
        due(x.count(0), 2);
        due(x.sum(1, 1), 2);
        due(x.of(2, 2), 11);
    }

    private static void promise05_wideAAbove9999() {
        TurningFractions x = with(5000, 1, 10);
        x.fraction(4999, 1, 10);
        due(x.sum(0, 1), 2);
        due(x.of(2, 0), 9999);
        due(x.sum(0, 0), WIDE);
        due(x.count(0), 3);
    }

    private static void promise05_wideBAbove999() {
        TurningFractions x = with(1, 27, 10);
        x.fraction(1, 37, 10);
        x.fraction(1, 8, 10);
        x.fraction(1, 125, 10);
        due(x.sum(2, 3), WIDE);
        due(x.sum(0, 1), 4);
        due(fractionOf(x, 4), "64/999");
    }

    private static void promise05_wideInLowestTermsAlone() {
        TurningFractions x = with(9999, 2, 10);
        due(x.sum(0, 0), 1);
        due(fractionOf(x, 1), "9999/1");
        x = with(1, 998, 10);
        due(x.sum(0, 0), 1);
        due(fractionOf(x, 1), "1/499");
        x = with(9999, 998, 10);
        x.fraction(9999, 997, 10);
        due(x.sum(0, 1), WIDE);
        x = with(9999, 999, 10);
        due(x.sum(0, 0), 1);
        due(fractionOf(x, 1), "2222/111");
    }

    private static void promise05_fullAt8() {
        TurningFractions x = with8();
        due(x.sum(0, 1), FULL);
        x.drop(7);
        due(x.sum(0, 1), 7);
        due(fractionOf(x, 7), "3/7");
        due(x.sum(0, 1), FULL);
    }

    private static void promise05_noSuchFraction() {
        TurningFractions x = with(1, 7, 10);
        due(x.sum(0, 1), BAD);
        due(x.sum(1, 0), BAD);
        due(x.sum(-1, 0), BAD);
        due(x.sum(0, -1), BAD);
        due(x.sum(LEAST, MOST), BAD);
        due(x.count(0), 1);
    }

    private static void promise06_itIsSoThen() {
        TurningFractions x = with(84, 36, 10);
        due(x.lowest(0), 3);
        due(fractionOf(x, 0), "7/3");
        due(x.lowest(0), 3);
        due(fractionOf(x, 0), "7/3");
    }

    private static void promise06_edges() {
        TurningFractions x = with(999, 999, 10);
        due(x.lowest(0), 1);
        due(fractionOf(x, 0), "1/1");
        x = with(9999, 1, 10);
        due(x.lowest(0), 1);
        due(x.of(0, 0), 9999);
        x = with(1, 999, 10);
        due(x.lowest(0), 999);
        x = with(0, 1, 10);
        due(x.lowest(0), 1);
        x = with(9999, 999, 10);
        due(x.lowest(0), 111);
    }

    private static void promise06_noSuchFraction() {
        TurningFractions x = with(2, 4, 10);
        due(x.lowest(1), BAD);
        due(x.lowest(-1), BAD);
        due(x.lowest(MOST), BAD);
        due(fractionOf(x, 0), "2/4");
    }

    private static void promise07_whatFrom0To6() {
        TurningFractions x = with(101, 12, 10);
        int[] of = {101, 12, 10, 8, 2, 1, 2};
        for (int what = 0; what < of.length; what++) {
            due(x.of(0, what), of[what]);
        }
        due(x.of(0, -1), BAD);
        due(x.of(0, 7), BAD);
        due(x.of(0, LEAST), BAD);
        due(x.of(0, MOST), BAD);
    }

    private static void promise07_noSuchFraction() {
        due(new TurningFractions().of(0, 0), BAD);
        due(with(1, 7, 10).of(1, 0), BAD);
        due(with(1, 7, 10).of(-1, 0), BAD);
        due(with8().of(8, 0), BAD);
        due(with8().of(7, 0), 8);
    }

    private static void promise08_iFrom0To9999() {
        // 5 by 7 is (714285): 9999 leaves 3 by 6
        TurningFractions x = with(5, 7, 10);
        due(x.digit(0, -1), BAD);
        due(x.digit(0, LEAST), BAD);
        due(x.digit(0, 0), 7);
        due(x.digit(0, 9998), 4);
        due(x.digit(0, 9999), 2);
        due(x.digit(0, 10000), BAD);
        due(x.digit(0, MOST), BAD);
    }

    private static void promise08_aboutHeadAndLength() {
        // 1 by 28: 03(571428)
        TurningFractions x = with(1, 28, 10);
        int[] digits = {0, 3, 5, 7, 1, 4, 2, 8, 5, 7, 1};
        for (int i = 0; i < digits.length; i++) {
            due(x.digit(0, i), digits[i]);
        }
    }

    private static void promise08_0sBehindOneThatEnds() {
        TurningFractions x = with(3, 8, 10);
        int[] digits = {3, 7, 5, 0, 0};
        for (int i = 0; i < digits.length; i++) {
            due(x.digit(0, i), digits[i]);
        }
        due(x.digit(0, 9999), 0);
    }

    private static void promise08_noSuchFraction() {
        due(with(1, 7, 10).digit(1, 0), BAD);
        due(with(1, 7, 10).digit(-1, 0), BAD);
        due(new TurningFractions().digit(0, 0), BAD);
    }

    private static void promise09_iFrom0To9999() {
        TurningFractions x = with(5, 7, 10);
        due(x.rest(0, -1), BAD);
        due(x.rest(0, LEAST), BAD);
        due(x.rest(0, 0), 5);
        due(x.rest(0, 9998), 3);
        due(x.rest(0, 9999), 2);
        due(x.rest(0, 10000), BAD);
        due(x.rest(0, MOST), BAD);
    }

    private static void promise09_aboutHeadAndLength() {
        TurningFractions x = with(1, 28, 10);
        int[] rests = {1, 10, 16, 20, 4, 12, 8, 24, 16, 20};
        for (int i = 0; i < rests.length; i++) {
            due(x.rest(0, i), rests[i]);
        }
    }

    private static void promise09_noSuchFraction() {
        due(with(1, 7, 10).rest(1, 0), BAD);
        due(with(1, 7, 10).rest(-1, 0), BAD);
        due(new TurningFractions().rest(0, 0), BAD);
    }

    private static void promise10_dFrom0ToBaseLess1() {
        for (int base = 2; base <= 16; base++) {
            TurningFractions x = with(1, base, base);
            due(x.place(0, -1), BAD);
            due(x.place(0, LEAST), BAD);
            due(x.place(0, 0), 1);
            due(x.place(0, 1), 0);
            due(x.place(0, base), BAD);
            due(x.place(0, MOST), BAD);
            x.fraction(base - 1, base, base);
            due(x.place(1, base - 1), 0);
        }
    }

    private static void promise10_theLeastPlace() {
        due(with(1, 11, 10).place(0, 0), 0);
        due(with(1, 11, 10).place(0, 9), 1);
        // 1 by 28: 03(571428): first, last ahead of HEAD, first and last of the PERIOD
        TurningFractions x = with(1, 28, 10);
        due(x.place(0, 0), 0);
        due(x.place(0, 3), 1);
        due(x.place(0, 5), 2);
        due(x.place(0, 8), 7);
        due(x.place(0, 9), NOT);
    }

    private static void promise10_0BehindOneThatEnds() {
        due(with(3, 8, 10).place(0, 0), 3);
        due(with(7, 7, 10).place(0, 0), 0);
        due(with(3, 8, 10).place(0, 4), NOT);
    }

    private static void promise10_atNone() {
        due(with(1, 7, 10).place(0, 0), NOT);
        due(with(1, 7, 10).place(0, 9), NOT);
        due(with(0, 7, 10).place(0, 1), NOT);
    }

    private static void promise10_noSuchFraction() {
        due(with(1, 7, 10).place(1, 0), BAD);
        due(with(1, 7, 10).place(-1, 0), BAD);
    }

    private static void promise11_kFrom1ToLength() {
        TurningFractions x = with(1, 7, 10);
        due(x.block(0, 0, 0), BAD);
        due(x.block(0, -1, 0), BAD);
        due(x.block(0, LEAST, 0), BAD);
        due(x.block(0, 1, 0), 7);
        due(x.block(0, 6, 0), 7);
        due(x.block(0, 7, 0), BAD);
        due(x.block(0, 12, 0), BAD);
        due(x.block(0, MOST, 0), BAD);
    }

    private static void promise11_kPartsLength() {
        TurningFractions x = with(1, 7, 10);
        due(x.block(0, 2, 0), 9);
        due(x.block(0, 3, 0), 9);
        due(x.block(0, 4, 0), BAD);
        due(x.block(0, 5, 0), BAD);
    }

    private static void promise11_jFrom0ToWLess1() {
        TurningFractions x = with(1, 7, 10);
        due(x.block(0, 1, 5), 1);
        due(x.block(0, 1, 6), BAD);
        due(x.block(0, 2, 2), 9);
        due(x.block(0, 2, 3), BAD);
        due(x.block(0, 3, 1), 9);
        due(x.block(0, 3, 2), BAD);
        due(x.block(0, 6, 0), 7);
        due(x.block(0, 6, 1), BAD);
        due(x.block(0, 2, MOST), BAD);
    }

    private static void promise11_jMinus1IsOver() {
        TurningFractions x = with(1, 7, 10);
        due(x.block(0, 6, -1), 2);
        due(x.block(0, 2, -1), 0);
        due(x.block(0, 6, -2), BAD);
        due(x.block(0, 6, LEAST), BAD);
    }

    private static void promise11_ofOneThatEnds() {
        TurningFractions x = with(3, 8, 10);
        due(x.block(0, 1, 0), 0);
        due(x.block(0, 1, -1), 0);
        due(x.block(0, 1, 1), BAD);
        due(x.block(0, 2, 0), BAD);
        due(x.block(0, 3, 0), BAD);
    }

    private static void promise11_aShorterPeriodBehindALonger() {
        TurningFractions x = with(1, 7, 10);
        x.fraction(10, 11, 10);
        due(x.block(0, 1, 0), 7);
        due(x.block(1, 1, 0), 0);
        due(x.block(1, 1, 1), 9);
        due(x.block(1, 2, 0), 9);
        due(x.block(1, 2, -1), 0);
        due(x.block(1, 1, 2), BAD);
    }

    private static void promise11_noSuchFraction() {
        due(with(1, 7, 10).block(1, 1, 0), BAD);
        due(with(1, 7, 10).block(-1, 1, 0), BAD);
    }

    private static void promise12_kFrom1ToLength() {
        TurningFractions x = with(1, 7, 10);
        due(x.nines(0, 0), BAD);
        due(x.nines(0, -1), BAD);
        due(x.nines(0, LEAST), BAD);
        due(x.nines(0, 1), NOT);
        due(x.nines(0, 6), 3);
        due(x.nines(0, 7), BAD);
        due(x.nines(0, 12), BAD);
        due(x.nines(0, MOST), BAD);
    }

    private static void promise12_kPartsLength() {
        TurningFractions x = with(1, 7, 10);
        due(x.nines(0, 2), 1);
        due(x.nines(0, 3), 1);
        due(x.nines(0, 4), BAD);
        due(x.nines(0, 5), BAD);
    }

    private static void promise12_noSuchFraction() {
        due(with(1, 7, 10).nines(1, 1), BAD);
        due(with(1, 7, 10).nines(-1, 1), BAD);
    }

    private static void promise13_mFrom1To999() {
        TurningFractions x = with(1, 7, 10);
        due(x.shift(0, 0), BAD);
        due(x.shift(0, -1), BAD);
        due(x.shift(0, LEAST), BAD);
        due(x.shift(0, 1), 0);
        due(x.shift(0, 999), 5);
        due(x.shift(0, 1000), BAD);
        due(x.shift(0, MOST), BAD);
    }

    private static void promise13_atNoPlace() {
        due(with(1, 7, 10).shift(0, 7), NOT);
        due(with(1, 7, 10).shift(0, 994), NOT);
        due(with(1, 13, 10).shift(0, 2), NOT);
    }

    private static void promise13_changesNothing() {
        TurningFractions x = with(9999, 7, 10);
        x.shift(0, 999);
        due(fractionOf(x, 0), "9999/7");
        due(x.count(0), 1);
    }

    private static void promise13_noSuchFraction() {
        due(with(1, 7, 10).shift(1, 1), BAD);
        due(with(1, 7, 10).shift(-1, 1), BAD);
    }

    private static void promise14_sFrom0ToLengthLess1() {
        TurningFractions x = with(1, 7, 10);
        due(x.multiple(0, -1), BAD);
        due(x.multiple(0, LEAST), BAD);
        due(x.multiple(0, 0), 8);
        due(x.multiple(0, 5), 5);
        due(x.multiple(0, 6), BAD);
        due(x.multiple(0, MOST), BAD);
    }

    private static void promise14_mFrom2On() {
        // m 1 is 0 places on, too, and is not looked at
        due(with(1, 7, 10).multiple(0, 0), 8);
        due(with(1, 7, 10).multiple(0, 2), 2);
        due(with(3, 8, 10).multiple(0, 0), 2);
        due(with(3, 8, 10).multiple(0, 1), BAD);
    }

    private static void promise14_mTo999() {
        // 1 by 998 in base 3 is itself again by 999, 1 by 999 in base 10 by 1000
        due(with(1, 998, 3).multiple(0, 0), 999);
        due(with(1, 999, 10).multiple(0, 0), NOT);
        due(with(1, 999, 10).multiple(0, 2), 100);
    }

    private static void promise14_noSuchFraction() {
        due(with(1, 7, 10).multiple(1, 0), BAD);
        due(with(1, 7, 10).multiple(-1, 0), BAD);
    }

    private static void promise15_baseFrom2To16() {
        TurningFractions x = new TurningFractions();
        due(x.order(1, 7), BAD);
        due(x.order(LEAST, 7), BAD);
        due(x.order(2, 7), 3);
        due(x.order(16, 7), 3);
        due(x.order(17, 7), BAD);
        due(x.order(MOST, 7), BAD);
    }

    private static void promise15_bFrom1To9999() {
        TurningFractions x = new TurningFractions();
        due(x.order(10, 0), BAD);
        due(x.order(10, -1), BAD);
        due(x.order(10, LEAST), BAD);
        due(x.order(10, 1), 1);
        due(x.order(10, 9999), 4);
        due(x.order(3, 10000), BAD);
        due(x.order(3, MOST), BAD);
    }

    private static void promise15_theGreatest() {
        due(new TurningFractions().order(10, 9967), 9966);
        due(new TurningFractions().order(11, 9973), 9972);
    }

    private static void promise16_baseFrom2To16() {
        TurningFractions x = new TurningFractions();
        due(x.cycles(1, 7, 0), BAD);
        due(x.cycles(LEAST, 7, 0), BAD);
        due(x.cycles(2, 7, 0), 2);
        due(x.cycles(16, 7, 0), 2);
        due(x.cycles(17, 7, 0), BAD);
        due(x.cycles(MOST, 7, 0), BAD);
    }

    private static void promise16_bFrom2To999() {
        TurningFractions x = new TurningFractions();
        due(x.cycles(3, 1, 0), BAD);
        due(x.cycles(3, 0, 0), BAD);
        due(x.cycles(3, LEAST, 0), BAD);
        due(x.cycles(3, 2, 0), 1);
        due(x.cycles(10, 999, 0), 338);
        due(x.cycles(10, 999, 1), 3);
        due(x.cycles(3, 1000, 0), BAD);
        due(x.cycles(3, MOST, 0), BAD);
    }

    private static void promise16_what0And1() {
        TurningFractions x = new TurningFractions();
        due(x.cycles(10, 13, -1), BAD);
        due(x.cycles(10, 13, 0), 2);
        due(x.cycles(10, 13, 1), 6);
        due(x.cycles(10, 13, 2), BAD);
        due(x.cycles(10, 13, LEAST), BAD);
        due(x.cycles(10, 13, MOST), BAD);
    }

    private static void promise16_commonDivisorAbove1() {
        TurningFractions x = new TurningFractions();
        due(x.cycles(10, 2, 0), STATE);
        due(x.cycles(15, 3, 1), STATE);
        due(x.cycles(15, 998, 0) > 0 ? 1 : 0, 1);
        due(x.cycles(14, 998, 0), STATE);
        due(x.cycles(6, 999, 0), STATE);
    }

    private static void promise16_ringsOfUnlikeLengths() {
        // by 21 in base 10: 12 numbers in two rings of 6, the 3s in one of 6, 7 and 14 alone
        TurningFractions x = new TurningFractions();
        due(x.cycles(10, 21, 0), 5);
        due(x.cycles(10, 21, 1), 6);
        due(x.cycles(10, 21, 0), 5);
    }

    private static void promise17_baseFrom2To16() {
        TurningFractions x = new TurningFractions();
        due(x.full(1, 2, 60, 0), BAD);
        due(x.full(LEAST, 2, 60, 0), BAD);
        due(x.full(2, 2, 13, 0), 4);
        due(x.full(16, 2, 60, 0), 0);
        due(x.full(17, 2, 60, 0), BAD);
        due(x.full(MOST, 2, 60, 0), BAD);
    }

    private static void promise17_fromAndToOf2To999() {
        TurningFractions x = new TurningFractions();
        due(x.full(3, 1, 7, 0), BAD);
        due(x.full(3, LEAST, 7, 0), BAD);
        due(x.full(3, 2, 7, 1), 2);
        due(x.full(10, 2, 1000, 0), BAD);
        due(x.full(10, 2, MOST, 0), BAD);
        due(x.full(10, 2, 999, 2), 983);
        due(x.full(10, 999, 999, 0), 0);
        due(x.full(10, 1000, 1000, 0), BAD);
        due(x.full(10, 1, 1, 0), BAD);
    }

    private static void promise17_fromIsToAtMost() {
        TurningFractions x = new TurningFractions();
        due(x.full(10, 7, 7, 0), 1);
        due(x.full(10, 8, 7, 0), BAD);
        due(x.full(10, 999, 2, 0), BAD);
    }

    private static void promise17_bothEndsCount() {
        TurningFractions x = new TurningFractions();
        due(x.full(10, 7, 17, 0), 2);
        due(x.full(10, 7, 17, 1), 7);
        due(x.full(10, 7, 17, 2), 17);
        due(x.full(10, 8, 17, 0), 1);
        due(x.full(10, 8, 17, 1), 17);
        due(x.full(10, 7, 16, 0), 1);
        due(x.full(10, 7, 16, 2), 7);
    }

    private static void promise17_what0To2() {
        TurningFractions x = new TurningFractions();
        due(x.full(10, 2, 60, -1), BAD);
        due(x.full(10, 2, 60, 0), 7);
        due(x.full(10, 2, 60, 1), 7);
        due(x.full(10, 2, 60, 2), 59);
        due(x.full(10, 2, 60, 3), BAD);
        due(x.full(10, 2, 60, LEAST), BAD);
        due(x.full(10, 2, 60, MOST), BAD);
    }

    private static void promise17_thereIsNone() {
        TurningFractions x = new TurningFractions();
        due(x.full(10, 62, 96, 0), 0);
        due(x.full(10, 62, 96, 1), NOT);
        due(x.full(10, 62, 96, 2), NOT);
    }

    private static void promise18_nFrom2To400() {
        TurningFractions x = new TurningFractions();
        due(x.list(1, 10), BAD);
        due(x.list(0, 10), BAD);
        due(x.list(LEAST, 10), BAD);
        due(x.count(1), 0);
        due(x.list(2, 10), 1);
        due(listOf(x), "2");
        due(x.list(401, 10), BAD);
        due(x.list(MOST, 10), BAD);
        due(listOf(x), "2");
        due(x.list(400, 10), 399);
        due(x.listed(0), 2);
        due(x.listed(398), 400);
    }

    private static void promise18_baseFrom2To16() {
        TurningFractions x = new TurningFractions();
        due(x.list(4, 1), BAD);
        due(x.list(4, LEAST), BAD);
        due(x.list(4, 17), BAD);
        due(x.list(4, MOST), BAD);
        due(x.count(2), 10);
        due(x.list(4, 2), 3);
        due(x.count(2), 2);
        due(x.list(4, 16), 3);
        due(x.count(2), 16);
    }

    private static void promise18_inPlaceOfWhatWasThere() {
        TurningFractions x = new TurningFractions();
        x.list(400, 10);
        thin(x, "full");
        due(x.list(5, 3), 4);
        due(listOf(x), "2 3 4 5");
        due(x.listed(4), NOT);
    }

    private static void promise19_theTapeIsEmptyThen() {
        TurningFractions x = new TurningFractions();
        x.list(9, 10);
        due(thin(x, "ends"), 4);
        due(x.count(3), 0);
        due(x.thin(), BAD);
        due(x.count(1), 4);
    }

    private static void promise19_theTapeIsEmptyByNoWord() {
        TurningFractions x = new TurningFractions();
        x.list(9, 10);
        due(thin(x, "end"), BAD);
        due(x.count(3), 0);
        due(x.count(1), 8);
    }

    private static void promise19_noneIsLeft() {
        TurningFractions x = new TurningFractions();
        x.list(6, 10);
        due(thin(x, "full"), 0);
        due(x.count(1), 0);
        due(x.listed(0), NOT);
        due(thin(x, "not full"), 0);
    }

    private static void promise19_allAreLeft() {
        TurningFractions x = new TurningFractions();
        x.list(400, 4);
        due(thin(x, "not full"), 399);
        due(x.listed(398), 400);
    }

    private static void promise19_aTapeOf80IsNoWord() {
        TurningFractions x = new TurningFractions();
        x.list(9, 10);
        for (int n = 0; n < 20; n++) {
            x.feed(0x656e6473, 4);
        }
        due(x.thin(), BAD);
        due(x.count(3), 0);
    }

    private static void promise20_iFrom0() {
        TurningFractions x = new TurningFractions();
        due(x.listed(0), NOT);
        x.list(4, 10);
        due(x.listed(-1), BAD);
        due(x.listed(LEAST), BAD);
        due(x.listed(0), 2);
    }

    private static void promise20_notAsMany() {
        TurningFractions x = new TurningFractions();
        x.list(4, 10);
        due(x.listed(2), 4);
        due(x.listed(3), NOT);
        due(x.listed(MOST), NOT);
        x.list(400, 10);
        due(x.listed(398), 400);
        due(x.listed(399), NOT);
        due(x.listed(400), NOT);
        thin(x, "full");
        due(x.listed(0), 7);
        due(x.listed(x.count(1)), NOT);
    }

    private static void promise21_kindFrom0To5() {
        TurningFractions x = with(1, 11, 10);
        long[] told = {9, 18, -18, 81, 5, 1};
        due(x.tells(0, -1, 5), NO);
        due(x.tells(0, LEAST, 5), NO);
        for (int kind = 0; kind < told.length; kind++) {
            due(x.tells(0, kind, 5), told[kind]);
        }
        due(x.tells(0, 6, 5), NO);
        due(x.tells(0, MOST, 5), NO);
    }

    private static void promise21_vFrom0To99() {
        TurningFractions x = with(1, 11, 10);
        long[] lowest = {9, 18, -18, 81, 0, 1};
        long[] highest = {9, 18, -18, 81, 81, 0};
        for (int kind = 0; kind < 6; kind++) {
            due(x.tells(0, kind, -1), NO);
            due(x.tells(0, kind, LEAST), NO);
            due(x.tells(0, kind, 0), lowest[kind]);
            due(x.tells(0, kind, 99), highest[kind]);
            due(x.tells(0, kind, 100), NO);
            due(x.tells(0, kind, MOST), NO);
        }
    }

    private static void promise21_aShorterPeriodBehindALonger() {
        TurningFractions x = with(1, 7, 10);
        x.fraction(1, 3, 10);
        x.fraction(1, 8, 10);
        long[] third = {3, 3, 3, 9, 5, 1};
        for (int kind = 0; kind < 6; kind++) {
            x.tells(0, kind, 2);
            due(x.tells(1, kind, kind == 4 ? 5 : 2), third[kind]);
            due(x.tells(2, kind, 2), 0);
        }
    }

    private static void promise21_noSuchFraction() {
        due(with(1, 7, 10).tells(1, 0, 0), NO);
        due(with(1, 7, 10).tells(-1, 0, 0), NO);
    }

    private static void promise22_nFrom1To4() {
        TurningFractions x = new TurningFractions();
        due(x.feed('1', 0), BAD);
        due(x.feed('1', -1), BAD);
        due(x.feed('1', LEAST), BAD);
        due(x.feed('1', 5), BAD);
        due(x.feed('1', MOST), BAD);
        due(x.count(3), 0);
        due(x.feed('1', 1), 1);
        due(x.feed(0x31313131, 4), 5);
    }

    private static void promise22_theLowestBytesHighestFirst() {
        int v = 0x31323334;
        String[] read = {"4/1", "34/1", "234/1", "1234/1"};
        for (int n = 1; n <= 4; n++) {
            TurningFractions x = new TurningFractions();
            x.feed(v, n);
            x.read(10);
            due(fractionOf(x, 0), read[n - 1]);
        }
    }

    private static void promise22_theyComeBehind() {
        TurningFractions x = new TurningFractions();
        due(x.feed(0x3132, 2), 2);
        due(x.feed(0x2e35, 2), 4);
        due(x.read(10), 0);
        due(fractionOf(x, 0), "25/2");
    }

    private static void promise22_bytesOfNumbersBelow0() {
        TurningFractions x = new TurningFractions();
        due(x.feed(0xffffff31, 1), 1);
        due(x.read(10), 0);
        due(x.of(0, 0), 1);
        // 0xb1 is no 0x31, and -1 makes bytes that are no signs
        x.feed(0x310000b1, 1);
        due(x.read(10), -1000);
        x.feed(-1, 4);
        due(x.count(3), 4);
        due(x.read(10), -1000);
        x.feed(LEAST + '1', 4);
        due(x.read(10), -1000);
    }

    private static void promise22_fullAbove80() {
        TurningFractions x = new TurningFractions();
        for (int n = 4; n <= 76; n += 4) {
            due(x.feed(0, 4), n);
        }
        due(x.feed(0, 1), 77);
        due(x.feed(0, 4), FULL);
        due(x.count(3), 77);
        due(x.feed(0, 3), 80);
        for (int n = 1; n <= 4; n++) {
            due(x.feed(0, n), FULL);
        }
        due(x.count(3), 80);
    }

    private static void promise22_ofTooManyNoneComes() {
        TurningFractions x = new TurningFractions();
        feed(x, "low 0;low 0;low 0;low 0;low 0;low 0;low 0;low 0;low 0;low 0;low 0;low 0;low 000");
        due(x.count(3), 79);
        due(x.feed(0x303b, 2), FULL);
        x.fraction(1, 7, 10);
        due(x.run(), 13);
    }

    private static void promise23_howManyItHad() {
        TurningFractions x = new TurningFractions();
        due(x.wipe(), 0);
        x.feed(0, 1);
        due(x.wipe(), 1);
        due(x.count(3), 0);
        due(x.wipe(), 0);
        for (int n = 0; n < 20; n++) {
            x.feed(0, 4);
        }
        due(x.wipe(), 80);
        due(x.feed('5', 1), 1);
        due(x.read(10), 0);
    }

    private static void promise24_iFromMinus1() {
        TurningFractions x = with(1, 7, 10);
        due(x.spell(0, -2), BAD);
        due(x.spell(0, LEAST), BAD);
        due(x.spell(0, -1), 10);
        due(x.spell(0, 0), '0');
    }

    private static void promise24_notAsMany() {
        TurningFractions x = with(1, 7, 10);
        due(x.spell(0, 9), ')');
        due(x.spell(0, 10), NOT);
        due(x.spell(0, MOST), NOT);
        x = with(5, 1, 10);
        due(x.spell(0, -1), 1);
        due(x.spell(0, 0), '5');
        due(x.spell(0, 1), NOT);
        x = with(1, 8, 10);
        due(x.spell(0, -1), 5);
        due(x.spell(0, 4), '5');
        due(x.spell(0, 5), NOT);
    }

    private static void promise24_theLongest() {
        TurningFractions x = with(9999, 997, 7);
        due(x.of(0, 5), 996);
        // 9999 by 997 is 10, which is 13 in base 7; then a . and two brackets
        due(x.spell(0, -1), 2 + 3 + 996);
        due(x.spell(0, 0), '1');
        due(x.spell(0, 1), '3');
        due(x.spell(0, 2), '.');
        due(x.spell(0, 3), '(');
        due(x.spell(0, 4), '0' + x.digit(0, 0));
        due(x.spell(0, 999), '0' + x.digit(0, 995));
        due(x.spell(0, 1000), ')');
        due(x.spell(0, 1001), NOT);
    }

    private static void promise24_noSuchFraction() {
        due(with(1, 7, 10).spell(1, -1), BAD);
        due(with(1, 7, 10).spell(1, 0), BAD);
        due(with(1, 7, 10).spell(-1, 0), BAD);
    }

    private static void promise25_baseFrom2To16() {
        TurningFractions x = new TurningFractions();
        feed(x, "10.1");
        due(x.read(1), BAD);
        due(x.read(0), BAD);
        due(x.read(LEAST), BAD);
        due(x.read(17), BAD);
        due(x.read(MOST), BAD);
        due(x.count(3), 4);
        due(x.read(2), 0);
        due(fractionOf(x, 0), "5/2");
        due(x.of(0, 2), 2);
        due(read("10.1", 16), "257/16");
    }

    private static void promise25_theTapeIsEmptyThen() {
        TurningFractions x = new TurningFractions();
        due(readOn(x, "0.5", 10), 0);
        due(x.count(3), 0);
        due(readOn(x, "0.5x", 10), -1003);
        due(x.count(3), 0);
        due(readOn(x, "0.0001", 10), WIDE);
        due(x.count(3), 0);
        for (int f = 1; f < 8; f++) {
            x.fraction(1, 7, 10);
        }
        due(readOn(x, "0.5", 10), FULL);
        due(x.count(3), 0);
        feed(x, "0.5");
        due(x.read(17), BAD);
        due(x.count(3), 3);
    }

    private static void promise25_eachNumeralForItself() {
        TurningFractions x = new TurningFractions();
        due(readOn(x, "3.25(7)", 10), 0);
        due(readOn(x, "3", 10), 1);
        due(fractionOf(x, 1), "3/1");
        due(readOn(x, "0.2", 10), 2);
        due(fractionOf(x, 2), "1/5");
        due(readOn(x, "0.(2)", 10), 3);
        due(fractionOf(x, 3), "2/9");
        due(readOn(x, "1.(2", 10), -1004);
        due(readOn(x, "0", 10), 4);
        due(fractionOf(x, 4), "0/1");
    }

    private static void promise25_wideAAbove9999() {
        due(read("9999", 10), "9999/1");
        due(read("9999.0", 10), "9999/1");
        due(read("9999.1", 10), "-6");
        due(read("9999.(9)", 10), "-6");
        due(read("270f", 16), "9999/1");
        due(read("2710", 16), "-6");
        due(read("ffff.ffff(ffff)", 16), "-6");
        due(read("4999.5", 10), "9999/2");
        due(read("5000.5", 10), "-6");
    }

    private static void promise25_wideBAbove999() {
        due(read("0.(001)", 10), "1/999");
        due(read("0.001", 10), "-6");
        due(read("0.008", 10), "1/125");
        due(read("0.(0001)", 10), "-6");
        due(read("0.000f(0)", 16), "-6");
        due(read("0.01", 16), "1/256");
        due(read("0.0000(1000)", 2), "1/30");
        due(read("0.0000(0001)", 2), "1/240");
    }

    private static void promise25_fullAt8() {
        TurningFractions x = with8();
        due(readOn(x, "0.5", 10), FULL);
        due(x.count(0), 8);
        x.drop(0);
        due(readOn(x, "0.5", 10), 7);
        due(fractionOf(x, 7), "1/2");
    }

    private static void promise26_theTapeIsEmptyThen() {
        TurningFractions x = with(1, 7, 10);
        due(run(x, "low 0"), 1);
        due(x.count(3), 0);
        due(run(x, "low 0x"), -1005);
        due(x.count(3), 0);
        due(run(x, "low 1"), -2000);
        due(x.count(3), 0);
    }

    private static void promise26_nothingIsDoneByAFault() {
        TurningFractions x = with(1, 7, 10);
        due(run(x, "mul 0 2;mul 0 2;mul 0"), -1021);
        due(x.of(0, 0), 1);
    }

    private static void promise26_howManyWereDone() {
        TurningFractions x = with(1, 7, 10);
        due(run(x, "low 0"), 1);
        due(run(x, "low 0;low 0"), 2);
        String twelve = "low 0;low 0;low 0;low 0;low 0;low 0;low 0;low 0;low 0;low 0;low 0;low 0;";
        due(run(x, twelve + "low 0"), 13);
        due(run(x, "low 1"), -2000);
        due(run(x, "low 0;low 1"), -2001);
        due(run(x, twelve + "low 1"), -2012);
    }

    private static void promise26_eachScriptForItself() {
        TurningFractions x = new TurningFractions();
        due(run(x, "new 4 6 7;new 5 7 8;new 6 8 9"), 3);
        due(run(x, "low 0"), 1);
        due(fractionOf(x, 0), "2/3");
        due(run(x, "low 2;lo"), -1006);
        due(run(x, "drop 0"), 1);
        due(fractionOf(x, 0), "5/7");
        due(fractionOf(x, 1), "6/8");
    }

    private static void promise26_eachCommandIsRefusedAsItsCallIs() {
        due(run("new 9999 1 10"), 1);
        due(run("new 1 0 10"), -2000);
        due(run("new 1 999 10"), 1);
        due(run("new 1 1000 10"), -2000);
        due(run("new 1 7 1"), -2000);
        due(run("new 1 7 17"), -2000);
        due(run("drop 1"), -2000);
        due(run("drop 9999"), -2000);
        due(run("mul 1 1"), -2000);
        due(run("mul 0 999"), 1);
        due(run("mul 0 1000"), -2000);
        due(run("mul 0 999;mul 0 999"), -2001);
        due(run("sum 0 1"), -2000);
        due(run("sum 1 0"), -2000);
        due(run("new 1 7 9;sum 0 1"), -2001);
        due(run("new 9999 1 10;sum 1 1"), -2001);
        due(run("low 1"), -2000);
        due(run(with8(), "sum 0 0"), -2000);
        due(run(with8(), "new 1 7 10"), -2000);
    }

    private static void promise26_anAnswerOf0IsNoRefusal() {
        due(run("mul 0 0;mul 0 1;drop 0;new 0 1 10"), 4);
    }

    private static void promise27_itsKind() {
        TurningFractions x = with(3, 8, 10);
        x.fraction(1, 7, 10);
        x.fraction(5, 12, 10);
        due(x.hold(0, 0), 0);
        due(x.hold(0, 1), 1);
        due(x.hold(5, 2), 2);
        due(x.hold(6, 0), BAD);
        due(x.hold(-1, 0), BAD);
    }

    private static void promise27_noSuchFraction() {
        TurningFractions x = with(3, 8, 10);
        due(x.hold(0, 1), BAD);
        due(x.hold(0, -1), BAD);
        due(x.hold(0, 8), BAD);
        due(x.lose(0), 0);
    }

    private static void promise27_inPlaceOfWhatWasHeld() {
        TurningFractions x = with(3, 8, 10);
        x.row(0, 5);
        due(x.hold(0, 0), 0);
        due(x.get(0, 0), NO);
        due(x.taken(0, 0), 3);
        x.multiply(0, 2);
        x.hold(0, 0);
        due(x.taken(0, 0), 6);
    }

    private static void promise27_itsBaseIsHeldWithIt() {
        TurningFractions x = with(1, 12, 7);
        x.fraction(5, 11, 16);
        x.hold(0, 1);
        x.hold(1, 0);
        // 5 by 11 in base 16 is (745d1), 1 by 12 in base 7 is (04)
        due(x.was(0, 0), 7);
        due(x.was(0, 3), 13);
        due(x.taken(0, 2), 5);
        due(x.was(1, 0), 0);
        due(x.was(1, 1), 4);
        due(x.taken(1, 2), 2);
    }

    private static void promise28_whatItHeld() {
        TurningFractions x = with(1, 7, 10);
        due(x.lose(0), 0);
        x.hold(0, 0);
        due(x.lose(0), 1);
        due(x.lose(0), 0);
        due(x.taken(0, 0), -11);
        x.row(5, 0);
        due(x.lose(5), 2);
        due(x.lose(5), 0);
        due(x.judge(5, 0), -11);
    }

    private static void promise28_noSuchHolder() {
        TurningFractions x = new TurningFractions();
        due(x.lose(6), BAD);
        due(x.lose(-1), BAD);
    }

    private static void promise29_kindFrom0To3() {
        TurningFractions x = holding(1, 7, 10);
        due(x.taken(0, -1), BAD);
        due(x.taken(0, LEAST), BAD);
        due(x.taken(0, 0), 1);
        due(x.taken(0, 3), -12);
        due(x.taken(0, 4), BAD);
        due(x.taken(0, MOST), BAD);
    }

    private static void promise29_nothingIsThere() {
        TurningFractions x = new TurningFractions();
        for (int kind = 0; kind < 4; kind++) {
            due(x.taken(0, kind), -11);
        }
    }

    private static void promise29_aRow() {
        TurningFractions x = new TurningFractions();
        x.row(0, 0);
        for (int kind = 0; kind < 4; kind++) {
            due(x.taken(0, kind), -12);
        }
    }

    private static void promise29_itIsStillHeld() {
        TurningFractions x = holding(1, 7, 10);
        due(x.taken(0, 2), 6);
        due(x.taken(0, 2), 6);
        due(x.lose(0), 1);
    }

    private static void promise30_iFrom0To9999() {
        TurningFractions x = holding(5, 7, 10);
        due(x.was(0, -1), BAD);
        due(x.was(0, LEAST), BAD);
        due(x.was(0, 0), 7);
        due(x.was(0, 9998), 4);
        due(x.was(0, 9999), 2);
        due(x.was(0, 10000), BAD);
        due(x.was(0, MOST), BAD);
    }

    private static void promise30_nothingOrARow() {
        TurningFractions x = new TurningFractions();
        due(x.was(0, 0), -11);
        x.row(0, 40);
        due(x.was(0, 0), -12);
    }

    private static void promise31_nFrom0To40() {
        TurningFractions x = new TurningFractions();
        due(x.row(0, -1), -14);
        due(x.row(0, LEAST), -14);
        due(x.row(0, 41), BAD);
        due(x.row(0, MOST), BAD);
        due(x.lose(0), 0);
        due(x.row(0, 0), 0);
        due(x.lose(0), 2);
        due(x.row(0, 40), 40);
        due(x.put(0, 39, 5), 1);
        due(x.get(0, 39), 5);
    }

    private static void promise31_inPlaceOfWhatWasHeld() {
        TurningFractions x = with(1, 7, 10);
        x.hold(0, 0);
        due(x.row(0, 3), 3);
        due(x.taken(0, 0), -12);
        x.put(0, 2, 9);
        due(x.row(0, 2), 2);
        due(x.get(0, 2), NO);
        due(x.row(0, 3), 3);
        due(x.get(0, 2), 0);
    }

    private static void promise32_iFrom0ToNLess1() {
        TurningFractions x = new TurningFractions();
        x.row(0, 3);
        due(x.put(0, -1, 1), -13);
        due(x.put(0, LEAST, 1), -13);
        due(x.put(0, 0, 1), 1);
        due(x.put(0, 2, 3), 1);
        due(x.put(0, 3, 1), -13);
        due(x.put(0, 40, 1), -13);
        due(x.put(0, MOST, 1), -13);
        due(x.get(0, 0), 1);
        due(x.get(0, 1), 0);
        due(x.get(0, 2), 3);
        x.row(0, 0);
        due(x.put(0, 0, 1), -13);
        x.row(0, 40);
        due(x.put(0, 39, 1), 1);
        due(x.put(0, 40, 1), -13);
    }

    private static void promise32_allInts() {
        TurningFractions x = new TurningFractions();
        x.row(0, 4);
        int[] all = {LEAST, -1, 0, MOST};
        for (int i = 0; i < 4; i++) {
            due(x.put(0, i, all[i]), 1);
        }
        for (int i = 0; i < 4; i++) {
            due(x.get(0, i), all[i]);
        }
    }

    private static void promise32_nothingOrNoRow() {
        TurningFractions x = with(1, 7, 10);
        due(x.put(0, 0, 1), -11);
        x.hold(0, 0);
        due(x.put(0, 0, 1), -12);
    }

    private static void promise33_iFrom0ToNLess1() {
        TurningFractions x = new TurningFractions();
        x.row(0, 3);
        x.put(0, 0, 7);
        x.put(0, 2, 9);
        due(x.get(0, -1), NO);
        due(x.get(0, LEAST), NO);
        due(x.get(0, 0), 7);
        due(x.get(0, 2), 9);
        due(x.get(0, 3), NO);
        due(x.get(0, 40), NO);
        due(x.get(0, MOST), NO);
        x.row(0, 0);
        due(x.get(0, 0), NO);
    }

    private static void promise33_nothingOrNoRow() {
        TurningFractions x = with(1, 7, 10);
        due(x.get(0, 0), NO);
        x.row(0, 1);
        x.hold(0, 0);
        due(x.get(0, 0), NO);
        x.row(0, 1);
        x.lose(0);
        due(x.get(0, 0), NO);
    }

    private static void promise34_noSuchHolderOrFraction() {
        TurningFractions x = with(1, 7, 10);
        x.row(0, 0);
        x.row(5, 0);
        due(x.judge(0, 0), NOT);
        due(x.judge(5, 0), NOT);
        due(x.judge(6, 0), BAD);
        due(x.judge(-1, 0), BAD);
        due(x.judge(0, 1), BAD);
        due(x.judge(0, -1), BAD);
    }

    private static void promise34_nothingOrNoRow() {
        TurningFractions x = with(1, 7, 10);
        due(x.judge(0, 0), -11);
        x.hold(0, 0);
        due(x.judge(0, 0), -12);
    }

    private static void promise35_howManyThereAre() {
        TurningFractions x = new TurningFractions();
        due(x.image(), 0);
        x.fraction(1, 7, 10);
        due(x.image(), 1);
        due(with8().image(), 8);
    }

    private static void promise35_theNewImageInPlaceOfTheOld() {
        TurningFractions x = with(1, 7, 10);
        x.image();
        x.multiply(0, 3);
        x.list(5, 3);
        x.image();
        x.multiply(0, 3);
        due(x.undo(), 1);
        due(x.of(0, 0), 3);
        due(x.count(1), 4);
    }

    private static void promise36_noneWasKept() {
        TurningFractions x = with(1, 7, 10);
        x.list(5, 3);
        due(x.undo(), STATE);
        due(x.count(0), 1);
        due(x.count(1), 4);
    }

    private static void promise36_anEmptyImage() {
        TurningFractions x = new TurningFractions();
        x.image();
        x.fraction(1, 7, 10);
        x.list(5, 3);
        due(x.undo(), 0);
        due(x.count(0), 0);
        due(x.count(1), 0);
        due(x.count(2), 10);
    }

    private static void promise36_anImageOf8() {
        TurningFractions x = with8();
        x.list(400, 16);
        due(x.image(), 8);
        for (int f = 0; f < 8; f++) {
            x.drop(0);
        }
        x.list(2, 2);
        due(x.undo(), 8);
        for (int f = 0; f < 8; f++) {
            due(x.of(f, 0), f + 1);
        }
        due(x.count(1), 399);
        due(x.listed(398), 400);
        due(x.count(2), 16);
        due(x.fraction(1, 7, 10), FULL);
    }

    private static void promise36_allOfAFractionIsAsItWas() {
        TurningFractions x = with(1, 12, 10);
        x.fraction(5, 11, 16);
        x.image();
        x.drop(0);
        x.drop(0);
        x.fraction(3, 4, 7);
        x.fraction(1, 2, 3);
        due(x.undo(), 2);
        int[] twelfth = {1, 12, 10, 0, 2, 1, 2};
        int[] elevenths = {5, 11, 16, 0, 0, 5, 1};
        for (int what = 0; what < 7; what++) {
            due(x.of(0, what), twelfth[what]);
            due(x.of(1, what), elevenths[what]);
        }
        due(x.digit(0, 1), 8);
        due(x.shift(0, 1), 0);
        due(x.digit(1, 3), 13);
    }

    private static void promise36_theThinnedListIsAsItWas() {
        TurningFractions x = new TurningFractions();
        x.list(9, 10);
        thin(x, "not ends");
        x.image();
        thin(x, "pure");
        due(listOf(x), "3 7 9");
        due(x.undo(), 0);
        due(listOf(x), "3 6 7 9");
        x.list(400, 3);
        x.undo();
        due(listOf(x), "3 6 7 9");
        due(x.count(2), 10);
    }

    private static void promise36_theImageStays() {
        TurningFractions x = with(1, 7, 10);
        x.list(9, 10);
        x.image();
        for (int time = 0; time < 3; time++) {
            x.multiply(0, 2);
            x.fraction(1, 3, 10);
            thin(x, "ends");
            due(x.undo(), 1);
            due(x.of(0, 0), 1);
            due(x.count(1), 8);
        }
    }

    private static void promise37_whatFrom0To3() {
        TurningFractions x = with(1, 7, 10);
        x.list(12, 5);
        feed(x, "seven b");
        due(x.count(-1), BAD);
        due(x.count(LEAST), BAD);
        due(x.count(0), 1);
        due(x.count(1), 11);
        due(x.count(2), 5);
        due(x.count(3), 7);
        due(x.count(4), BAD);
        due(x.count(MOST), BAD);
    }

    private static void promise37_atTheirMost() {
        TurningFractions x = with8();
        x.list(400, 16);
        for (int n = 0; n < 20; n++) {
            x.feed(0, 4);
        }
        due(x.count(0), 8);
        due(x.count(1), 399);
        due(x.count(2), 16);
        due(x.count(3), 80);
    }
}
