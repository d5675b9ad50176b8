import java.util.List;

/**
 * A test for each sentence of the document's "Terms", and of what stands behind them, that names a
 * boundary; its name tells the part that says the sentence.
 */
public final class TermsTest extends NamedTests {
    public static void main(String[] args) throws Exception {
        runAll(TermsTest.class, List.of("terms1_", "terms2_", "terms3_", "terms4_", "answers_", "constants_", "free_"));
    }

    // ======== Terms, part 1

    private static void terms1_numberedFrom0AsTheyCome() {
        TurningFractions x = new TurningFractions();
        for (int f = 0; f < 8; f++) {
            due(x.fraction(f + 1, 7, 10), f);
        }
        for (int f = 0; f < 8; f++) {
            due(x.of(f, 0), f + 1);
        }
        due(x.of(-1, 0), BAD);
        due(x.of(8, 0), BAD);
    }

    private static void terms1_eightAtMostHoweverTheyCome() {
        TurningFractions x = with8();
        due(x.fraction(1, 7, 10), FULL);
        due(x.sum(0, 0), FULL);
        due(readOn(x, "0.1", 10), FULL);
        due(run(x, "new 1 7 10"), -2000);
        due(x.count(0), 8);
    }

    private static void terms1_rest0IsAModuloB() {
        due(with(6, 7, 10).rest(0, 0), 6);
        due(with(7, 7, 10).rest(0, 0), 0);
        due(with(8, 7, 10).rest(0, 0), 1);
        due(with(0, 7, 10).rest(0, 0), 0);
        due(with(9999, 1, 10).rest(0, 0), 0);
        due(with(9999, 999, 10).rest(0, 0), 9);
    }

    private static void terms1_digitIsCut() {
        due(with(2, 3, 10).digit(0, 0), 6);
        due(with(998, 999, 10).digit(0, 0), 9);
        due(with(998, 999, 16).digit(0, 0), 15);
        due(with(1, 11, 10).digit(0, 0), 0);
        due(with(1, 10, 10).digit(0, 0), 1);
    }

    private static void terms1_restGoesOnModuloB() {
        TurningFractions x = with(1, 10, 10);
        due(x.rest(0, 1), 0);
        due(x.rest(0, 2), 0);
        due(with(1, 11, 10).rest(0, 1), 10);
        due(with(1, 9, 10).rest(0, 1), 1);
    }

    private static void terms1_wholeIsCut() {
        due(with(6, 7, 10).of(0, 3), 0);
        due(with(7, 7, 10).of(0, 3), 1);
        due(with(13, 7, 10).of(0, 3), 1);
        due(with(14, 7, 10).of(0, 3), 2);
        due(with(9999, 1, 10).of(0, 3), 9999);
    }

    private static void terms1_endsIfSomeRestIs0() {
        due(turning(0, 7, 10), "0 1 0");
        due(turning(7, 7, 10), "0 1 0");
        due(turning(1, 1, 10), "0 1 0");
        due(turning(1, 2, 10), "1 1 0");
        due(turning(1, 512, 2), "9 1 0");
        due(turning(6, 12, 10), "1 1 0");
        due(turning(1, 3, 10), "0 1 1");
    }

    private static void terms1_headIsTheLeastPlaceThatComesAgain() {
        due(turning(1, 7, 10), "0 6 1");
        due(turning(1, 14, 10), "1 6 2");
        due(turning(1, 28, 10), "2 6 2");
        due(turning(1, 768, 2), "8 2 2");
        due(turning(1, 15, 10), "1 1 2");
        due(turning(3, 28, 10), "2 6 2");
    }

    private static void terms1_headOfOneThatEndsIsTheFirstRest0() {
        TurningFractions x = with(1, 512, 2);
        due(x.of(0, 4), 9);
        due(x.rest(0, 8), 256);
        due(x.rest(0, 9), 0);
        due(turning(1, 625, 10), "4 1 0");
        due(turning(1, 16, 16), "1 1 0");
        due(turning(1, 32, 16), "2 1 0");
    }

    private static void terms1_lengthIs1OrMore() {
        due(with(5, 1, 10).of(0, 5), 1);
        due(with(1, 8, 10).of(0, 5), 1);
        due(with(1, 9, 10).of(0, 5), 1);
        due(with(1, 11, 10).of(0, 5), 2);
        due(with(1, 983, 10).of(0, 5), 982);
        due(with(1, 997, 7).of(0, 5), 996);
    }

    private static void terms1_kinds() {
        due(with(3, 8, 10).of(0, 6), 0);
        due(with(8, 8, 10).of(0, 6), 0);
        due(with(1, 7, 10).of(0, 6), 1);
        due(with(1, 14, 10).of(0, 6), 2);
        due(with(7, 14, 10).of(0, 6), 0);
        due(with(2, 14, 10).of(0, 6), 1);
    }

    private static void terms1_lowestTermsOf0Are0By1() {
        TurningFractions x = with(0, 999, 10);
        due(x.lowest(0), 1);
        due(fractionOf(x, 0), "0/1");
        x = with(0, 7, 10);
        due(x.sum(0, 0), 1);
        due(fractionOf(x, 1), "0/1");
        due(read("0.00(0)", 10), "0/1");
    }

    private static void terms1_orderModulo1Is1() {
        for (int base = 2; base <= 16; base++) {
            due(new TurningFractions().order(base, 1), 1);
        }
    }

    private static void terms1_orderIs1OrMore() {
        TurningFractions x = new TurningFractions();
        due(x.order(10, 9), 1);
        due(x.order(10, 3), 1);
        due(x.order(3, 2), 1);
        due(x.order(2, 3), 2);
        due(x.order(10, 11), 2);
        due(x.order(16, 15), 1);
    }

    private static void terms1_orderIsNotWithACommonDivisorAbove1() {
        TurningFractions x = new TurningFractions();
        due(x.order(2, 2), NOT);
        due(x.order(15, 9), NOT);
        due(x.order(6, 9999), NOT);
        due(x.order(16, 9998), NOT);
        due(x.order(15, 8), 2);
    }

    private static void terms1_fullIs2OrMoreAndDoesNotEnd() {
        TurningFractions x = new TurningFractions();
        due(x.full(3, 2, 2, 0), 1);
        // 1 by 2 has LENGTH 1, which is 2 less 1, but it ENDS
        due(x.full(10, 2, 2, 0), 0);
        due(x.full(16, 2, 2, 0), 0);
        due(x.full(2, 3, 3, 0), 1);
        due(x.full(10, 3, 3, 0), 0);
        due(x.full(10, 983, 983, 0), 1);
        due(x.full(10, 13, 13, 0), 0);
    }

    private static void terms1_cyclesAreOf1ToBLess1() {
        TurningFractions x = new TurningFractions();
        due(x.cycles(3, 2, 0), 1);
        due(x.cycles(3, 2, 1), 1);
        due(x.cycles(2, 3, 0), 1);
        due(x.cycles(2, 3, 1), 2);
        due(x.cycles(10, 9, 0), 8);
        due(x.cycles(10, 9, 1), 1);
        due(x.cycles(10, 983, 0), 1);
        due(x.cycles(10, 983, 1), 982);
    }

    // ======== Terms, part 2

    private static void terms2_blocksBy1AreThePeriod() {
        TurningFractions x = with(1, 7, 10);
        int[] fromTheLast = {7, 5, 8, 2, 4, 1};
        for (int j = 0; j < 6; j++) {
            due(x.block(0, 1, j), fromTheLast[j]);
        }
        due(x.block(0, 1, -1), 0);
        due(x.nines(0, 1), NOT);
    }

    private static void terms2_blocksByLengthAreSingleDigits() {
        TurningFractions x = with(1, 7, 10);
        due(x.block(0, 6, 0), 7);
        due(x.block(0, 6, -1), 2);
        due(x.nines(0, 6), 3);
        x = with(1, 983, 10);
        // 491 times 9 is 4419
        due(x.nines(0, 982), 491);
        due(x.block(0, 982, 0), 9);
        due(x.block(0, 982, -1), 441);
    }

    private static void terms2_blocksAreOfThePeriodAlone() {
        // 1 by 28: 03(571428)
        TurningFractions x = with(1, 28, 10);
        due(x.block(0, 1, 5), 5);
        due(x.block(0, 1, 0), 8);
        due(x.block(0, 8, 0), BAD);
        // WHOLE has no part in it
        x = with(8, 7, 10);
        due(x.block(0, 1, 5), 1);
    }

    private static void terms2_place0IsTheLast() {
        // 20 by 21 is (952380), and 95 + 23 + 80 = 198
        TurningFractions x = with(20, 21, 10);
        due(x.block(0, 3, 0), 8);
        due(x.block(0, 3, 1), 9);
        due(x.block(0, 3, -1), 1);
    }

    private static void terms2_overIsCut() {
        due(with(1, 7, 10).block(0, 2, -1), 0);
        // 6 by 13 is 461538 and by 2 makes 999; 20 by 21 is 952380 and by 2 makes 1332
        due(with(6, 13, 10).block(0, 2, -1), 0);
        due(with(20, 21, 10).block(0, 2, -1), 1);
        due(with(20, 21, 10).block(0, 2, 0), 2);
        due(with(20, 21, 10).block(0, 2, 2), 3);
        // 2 by 3 in base 2 is (10): 1 + 0 = 1; 6 by 7 is (110): 1 + 1 + 0 = 10
        due(with(2, 3, 2).block(0, 2, -1), 0);
        due(with(6, 7, 2).block(0, 3, -1), 1);
        due(with(6, 7, 2).block(0, 3, 0), 0);
    }

    private static void terms2_ninesOf0Are0() {
        due(with(3, 8, 10).nines(0, 1), 0);
        due(with(0, 7, 10).nines(0, 1), 0);
        due(with(4, 1, 2).nines(0, 1), 0);
    }

    private static void terms2_ninesOfABaseThatHasOnly1() {
        // in base 2 g to the 1, less 1, is 1: each SUM is so many times it
        due(with(1, 7, 2).nines(0, 3), 1);
        due(with(3, 7, 2).nines(0, 3), 2);
        due(with(3, 7, 2).nines(0, 1), NOT);
        due(with(2, 3, 2).nines(0, 2), 1);
    }

    private static void terms2_ninesAreNotIfThereIsNoWhole() {
        due(with(1, 21, 10).nines(0, 2), NOT);
        due(with(1, 21, 10).nines(0, 3), 1);
        due(with(20, 21, 10).nines(0, 3), 2);
        due(with(1, 3, 10).nines(0, 1), NOT);
        // (8) is one less than 9, (1) one more than 0
        due(with(8, 9, 10).nines(0, 1), NOT);
        due(with(1, 9, 10).nines(0, 1), NOT);
    }

    private static void terms2_shiftGoesRound() {
        TurningFractions x = with(1, 7, 10);
        due(x.shift(0, 1), 0);
        due(x.shift(0, 3), 1);
        // the PERIOD of 5 by 7 is 714285: the last place, and round
        due(x.shift(0, 5), 5);
        due(x.shift(0, 8), 0);
    }

    private static void terms2_shiftOfMTimesAAbove9999() {
        due(with(9999, 7, 10).shift(0, 1), 0);
        due(with(9999, 7, 10).shift(0, 2), 2);
        // 9999 leaves 3 by 7, 999 leaves 5; 3 times 5 leaves 1: 428571 begun at 5 is 142857
        due(with(9999, 7, 10).shift(0, 999), 5);
        // 999 leaves 1 by 998: it is the same PERIOD again
        due(with(9999, 998, 10).shift(0, 999), 0);
    }

    private static void terms2_shiftWantsTheSameLength() {
        // 1 by 21 has 6, 3 by 21 is 1 by 7 with 6, 7 by 21 is 1 by 3 with 1, 21 by 21 ends with 1
        TurningFractions x = with(1, 21, 10);
        due(x.shift(0, 7), NOT);
        due(x.shift(0, 21), NOT);
        due(x.shift(0, 3), NOT);
        due(x.shift(0, 10), 1);
        due(x.shift(0, 22), 0);
    }

    private static void terms2_shiftWithTheSameLengthAndNoSuchPlace() {
        due(with(1, 13, 10).shift(0, 2), NOT);
        due(with(1, 3, 10).shift(0, 2), NOT);
        due(with(1, 3, 10).shift(0, 3), NOT);
        due(with(1, 3, 10).shift(0, 4), 0);
    }

    private static void terms2_shiftLooksAtThePeriodsAlone() {
        // 5 by 12 is 41(6); times 4 it is 1.(6), times 10 it is 4.1(6), times 2 it is 8(3)
        TurningFractions x = with(5, 12, 10);
        due(x.shift(0, 4), 0);
        due(x.shift(0, 10), 0);
        due(x.shift(0, 2), NOT);
        due(with(3, 8, 10).shift(0, 8), 0);
    }

    // ======== Terms, part 3

    private static void terms3_noneAtFirstAndBase10() {
        TurningFractions x = new TurningFractions();
        due(x.count(1), 0);
        due(x.count(2), 10);
        due(thin(x, "not ends"), 0);
        due(x.count(2), 10);
    }

    private static void terms3_rising() {
        TurningFractions x = new TurningFractions();
        x.list(400, 10);
        thin(x, "not prime");
        for (int i = 1; i < x.count(1); i++) {
            due(x.listed(i) > x.listed(i - 1) ? 1 : 0, 1);
        }
    }

    private static void terms3_ends() {
        due(thinned(10, 10, "ends"), "2 4 5 8 10");
        due(thinned(10, 10, "not ends"), "3 6 7 9");
        due(thinned(9, 2, "ends"), "2 4 8");
    }

    private static void terms3_pureIsKind1() {
        due(thinned(14, 10, "pure"), "3 7 9 11 13");
        due(thinned(10, 10, "not pure"), "2 4 5 6 8 10");
    }

    private static void terms3_mixedIsKind2() {
        due(thinned(15, 10, "mixed"), "6 12 14 15");
        due(thinned(7, 10, "not mixed"), "2 3 4 5 7");
    }

    private static void terms3_fullFrom2On() {
        due(thinned(7, 3, "full"), "2 5 7");
        due(thinned(7, 10, "full"), "7");
        due(thinned(5, 2, "not full"), "2 4");
        due(thinned(400, 4, "full"), "");
    }

    private static void terms3_evenDoesNotEndAndIsEven() {
        due(thinned(14, 10, "even"), "7 11 13 14");
        due(thinned(7, 10, "not even"), "2 3 4 5 6");
    }

    private static void terms3_oddDoesNotEndAndIsOdd() {
        // LENGTH of what ENDS is 1, too
        due(thinned(12, 10, "odd"), "3 6 9 12");
        due(thinned(8, 10, "not odd"), "2 4 5 7 8");
    }

    private static void terms3_halfWantsNinesOf1() {
        due(thinned(21, 10, "half"), "7 11 13 14 17 19");
        due(thinned(9, 10, "not half"), "2 3 4 5 6 8 9");
        due(thinned(3, 2, "half"), "3");
    }

    private static void terms3_primeFrom2On() {
        due(thinned(11, 10, "prime"), "2 3 5 7 11");
        due(thinned(2, 10, "prime"), "2");
        due(thinned(10, 10, "not prime"), "4 6 8 9 10");
        TurningFractions x = new TurningFractions();
        x.list(400, 10);
        due(thin(x, "prime"), 78);
        due(x.listed(77), 397);
        due(thinned(400, 10, "not prime").contains(" 361 ") ? 1 : 0, 1);
    }

    private static void terms3_wordsAreTheseAlone() {
        String[] none = {"", " ", "end", "endss", "Ends", "ENDS", " ends", "ends ", "ends\0", "purely", "pur", "mix",
            "fulls", "eve", "ev", "od", "odds", "hal", "primes", "prim", "ends;pure", "ends pure", "cyclic"};
        for (String word : none) {
            due(thinned(9, 10, word), "-1");
        }
    }

    private static void terms3_notStandsAheadWithOneBlank() {
        due(thinned(4, 10, "not ends"), "3");
        String[] none = {"not", "not ", "no ends", "notends", "not  ends", "Not ends", "not ends ", " not ends",
            "ends not", "not not ends", "not end", "not;ends"};
        for (String word : none) {
            due(thinned(4, 10, word), "-1");
        }
    }

    private static void terms3_thinnedAgain() {
        TurningFractions x = new TurningFractions();
        x.list(16, 10);
        due(thin(x, "not ends"), 9);
        due(thin(x, "odd"), 5);
        due(thin(x, "pure"), 2);
        due(listOf(x), "3 9");
        due(thin(x, "full"), 0);
        due(thin(x, "not full"), 0);
    }

    private static void terms3_tellersGoOverThePeriodAlone() {
        // 1 by 28: 03(571428); place 0 is the DIGIT at HEAD
        TurningFractions x = with(1, 28, 10);
        due(x.tells(0, 0, 0), 27);
        due(x.tells(0, 1, 0), 5 + 14 + 3 + 16 + 10 + 48);
        due(with(29, 28, 10).tells(0, 0, 0), 27);
    }

    private static void terms3_tellersOfOneThatEnds() {
        TurningFractions x = with(3, 8, 10);
        for (int kind = 0; kind <= 5; kind++) {
            due(x.tells(0, kind, 0), 0);
            due(x.tells(0, kind, 99), 0);
        }
    }

    private static void terms3_placedTimesIPlus1() {
        due(with(1, 3, 10).tells(0, 1, 0), 3);
        due(with(1, 11, 10).tells(0, 1, 0), 18);
        due(with(10, 11, 10).tells(0, 1, 0), 9);
    }

    private static void terms3_signedIsLessAtOddPlaces() {
        due(with(1, 3, 10).tells(0, 2, 0), 3);
        due(with(1, 11, 10).tells(0, 2, 0), -18);
        due(with(10, 11, 10).tells(0, 2, 0), 9);
        // 1 by 27 is (037)
        due(with(1, 27, 10).tells(0, 2, 0), 0 - 6 + 21);
    }

    private static void terms3_squared() {
        due(with(1, 27, 10).tells(0, 3, 0), 9 + 49);
        due(with(15, 17, 16).tells(0, 3, 0), 14 * 14 + 1);
        due(with(16, 17, 16).tells(0, 3, 0), 15 * 15);
    }

    private static void terms3_cappedIsTheLesser() {
        TurningFractions x = with(1, 27, 10);
        due(x.tells(0, 4, 0), 0);
        due(x.tells(0, 4, 8), 16);
        due(x.tells(0, 4, 9), 18);
        due(x.tells(0, 4, 10), 19);
        due(x.tells(0, 4, 48), 57);
        due(x.tells(0, 4, 49), 58);
        due(x.tells(0, 4, 50), 58);
        due(x.tells(0, 4, 99), 58);
        due(with(16, 17, 16).tells(0, 4, 99), 99);
    }

    private static void terms3_overIsAboveV() {
        TurningFractions x = with(1, 27, 10);
        due(x.tells(0, 5, 0), 2);
        due(x.tells(0, 5, 2), 2);
        due(x.tells(0, 5, 3), 1);
        due(x.tells(0, 5, 6), 1);
        due(x.tells(0, 5, 7), 0);
        due(x.tells(0, 5, 99), 0);
    }

    private static void terms3_tellersOfTheLongest() {
        TurningFractions x = with(1, 983, 10);
        due(x.tells(0, 0, 0), 4419);
        long placed = 0;
        TurningFractions y = null;
        for (int i = 0; i < 982; i++) {
            // a bench is used for 512 calls at most
            y = i % 400 == 0 ? with(1, 983, 10) : y;
            placed += y.digit(0, i) * (i + 1);
        }
        due(x.tells(0, 1, 0), placed);
    }

    // ======== Terms, part 4

    private static void terms4_tapeOf80AtMost() {
        TurningFractions x = new TurningFractions();
        for (int n = 1; n <= 80; n++) {
            due(x.feed('0', 1), n);
        }
        due(x.feed('0', 1), FULL);
        due(x.count(3), 80);
        due(x.read(10), -1004);
    }

    private static void terms4_digitsAre0To9AndAToF() {
        due(spelled(9, 1, 10), "9");
        due(spelled(10, 1, 16), "a");
        due(spelled(15, 1, 16), "f");
        due(spelled(10, 11, 11), "0.a");
        due(read("f", 16), "15/1");
        due(read("a", 11), "10/1");
        due(read("9", 10), "9/1");
        due(read("g", 16), "-1000");
        due(read("`", 16), "-1000");
        due(read("F", 16), "-1000");
        due(read("/", 16), "-1000");
        due(read(":", 16), "-1000");
        due(read("@", 16), "-1000");
    }

    private static void terms4_spelledWholeHasNo0Ahead() {
        due(spelled(0, 7, 10), "0");
        due(spelled(1, 2, 10), "0.5");
        due(spelled(9, 1, 10), "9");
        due(spelled(10, 1, 10), "10");
        due(spelled(100, 1, 10), "100");
        due(spelled(9999, 1, 10), "9999");
        due(spelled(9999, 1, 2), "10011100001111");
        due(spelled(9999, 1, 16), "270f");
        due(spelled(16, 1, 16), "10");
        due(spelled(15, 1, 16), "f");
    }

    private static void terms4_spelledPointUnlessRest0Is0() {
        due(spelled(14, 7, 10), "2");
        due(spelled(15, 7, 10), "2.(142857)");
        due(spelled(0, 999, 10), "0");
        due(spelled(1, 10, 10), "0.1");
    }

    private static void terms4_spelledPeriodUnlessItEnds() {
        due(spelled(3, 8, 10), "0.375");
        due(spelled(1, 512, 2), "0.000000001");
        due(spelled(1, 3, 10), "0.(3)");
        due(spelled(1, 12, 10), "0.08(3)");
        due(spelled(1, 28, 10), "0.03(571428)");
        due(spelled(9999, 17, 16), "24c.(2d)");
    }

    private static void terms4_numeralOf1To4Digits() {
        due(read("", 10), "-1000");
        due(read("7", 10), "7/1");
        due(read("0007", 10), "7/1");
        due(read("9999", 10), "9999/1");
        due(read("00007", 10), "-1004");
        due(read("0000.", 10), "-1005");
    }

    private static void terms4_numeralOf0To4DigitsBehindThePoint() {
        due(read("0.(1)", 10), "1/9");
        due(read("0.1", 10), "1/10");
        due(read("0.1250", 10), "1/8");
        due(read("0.12500", 10), "-1006");
        due(read("0.0000(1)", 2), "1/16");
        due(read("0.00000(1)", 2), "-1006");
    }

    private static void terms4_numeralOf1To4DigitsInBrackets() {
        due(read("0.()", 10), "-1003");
        due(read("0.(3)", 10), "1/3");
        due(read("0.(1485)", 10), "15/101");
        due(read("0.(14850)", 10), "-1007");
        due(read("0.5()", 10), "-1004");
    }

    private static void terms4_numeralHasADigitBehindThePoint() {
        due(read("5.", 10), "-1002");
        due(read("5.;", 10), "-1002");
        due(read("5.)", 10), "-1002");
        due(read("5..", 10), "-1002");
    }

    private static void terms4_numeralHasBracketsOnlyBehindAPoint() {
        due(read("5(3)", 10), "-1001");
        due(read("(3)", 10), "-1000");
        due(read(".(3)", 10), "-1000");
    }

    private static void terms4_numeralEndsBehindTheBracket() {
        due(read("0.(3)0", 10), "-1005");
        due(read("0.(3)(3)", 10), "-1005");
        due(read("0.(3).", 10), "-1005");
        due(read("0.5 ", 10), "-1003");
        due(read("0.5.5", 10), "-1003");
    }

    private static void terms4_numeralDigitsAreBelowTheBase() {
        for (int base = 2; base <= 16; base++) {
            String top = Integer.toString(base - 1, 16);
            String base16 = base < 16 ? Integer.toString(base, 16) : "g";
            due(read(top, base), base - 1 + "/1");
            due(read(base16, base), "-1000");
            due(read("0" + base16, base), "-1001");
            due(read("0." + base16, base), "-1002");
            due(read("0.0" + base16, base), "-1003");
            due(read("0.(" + base16, base), "-1003");
            due(read("0.(0" + base16, base), "-1004");
        }
    }

    private static void terms4_faultOfANumeralThatEndsTooEarly() {
        due(read("", 10), "-1000");
        due(read("1.", 10), "-1002");
        due(read("1234.", 10), "-1005");
        due(read("1.(", 10), "-1003");
        due(read("1.(1", 10), "-1004");
        due(read("1.1(", 10), "-1004");
        due(read("1.1234(1234", 10), "-1011");
        due(read("1234.1234(1234", 10), "-1014");
    }

    private static void terms4_faultOfBytesThatAreNoSigns() {
        due(read("\0", 10), "-1000");
        due(read("1\0", 10), "-1001");
        due(read("1\u00ff", 10), "-1001");
        due(read("1\u00b1", 10), "-1001");
        due(read("0.\u00a81)", 10), "-1002");
    }

    private static void terms4_numeralIsWorthWhatItTells() {
        due(read("0.(9)", 10), "1/1");
        due(read("9998.9999(9999)", 10), "9999/1");
        due(read("0.(1)", 2), "1/1");
        due(read("0.0(1)", 2), "1/2");
        due(read("0.0(9)", 10), "1/10");
        due(read("1.2(3)", 10), "37/30");
        due(read("0.5(0)", 10), "1/2");
        due(read("f.f(f)", 16), "16/1");
    }

    private static void terms4_numeralIsInLowestTerms() {
        due(read("0.50", 10), "1/2");
        due(read("0.0625", 10), "1/16");
        due(read("0.(142)", 10), "142/999");
        due(read("0.(333)", 10), "1/3");
        due(read("0.0002", 10), "-6");
        due(read("0.002", 10), "1/500");
    }

    private static void terms4_scriptWordsAndTheirNumbers() {
        TurningFractions x = new TurningFractions();
        due(run(x, "new 1 7 10"), 1);
        due(run(x, "mul 0 7"), 1);
        due(fractionOf(x, 0), "7/7");
        due(run(x, "low 0"), 1);
        due(fractionOf(x, 0), "1/1");
        due(run(x, "sum 0 0"), 1);
        due(fractionOf(x, 1), "2/1");
        due(run(x, "drop 0"), 1);
        due(fractionOf(x, 0), "2/1");
        due(x.count(0), 1);
    }

    private static void terms4_scriptNumbersOf1To4Figures() {
        due(run("low 0"), 1);
        due(run("low 0000"), 1);
        due(run("low 00000"), -1008);
        due(run("low "), -1004);
        due(run("low ;"), -1004);
        due(run("new 9999 0999 0016"), 1);
        due(run("new 10000 1 10"), -1008);
        due(run("new 1 00001 10"), -1010);
        due(run("new 1 7 00010"), -1012);
    }

    private static void terms4_scriptFiguresAre0To9() {
        due(run("low a"), -1004);
        due(run("low /"), -1004);
        due(run("low :"), -1004);
        due(run("low 0a"), -1005);
        due(run("low 0/"), -1005);
        due(run("low 0:"), -1005);
        due(run("low -0"), -1004);
        due(run("new 9 9 9"), 1);
    }

    private static void terms4_scriptOneBlankAheadOfEachNumber() {
        due(run("low0"), -1003);
        due(run("low  0"), -1004);
        due(run("mul 0  1"), -1006);
        due(run("mul 0,1"), -1005);
        due(run("low 0 "), -1005);
        due(run(" low 0"), -1000);
        due(run("low 0; low 0"), -1006);
        due(run("low 0 ;low 0"), -1005);
    }

    private static void terms4_scriptAsManyNumbersAsTheWordWants() {
        due(run("new 1 7"), -1007);
        due(run("new 1 7;low 0"), -1007);
        due(run("new 1 7 10 1"), -1010);
        due(run("drop 0 0"), -1006);
        due(run("low 0 0"), -1005);
        due(run("mul 0"), -1005);
        due(run("mul 0 1 1"), -1007);
        due(run("sum 0;"), -1005);
        due(run("sum 0 0 0"), -1007);
    }

    private static void terms4_scriptPartedByOneSign() {
        due(run(""), -1000);
        due(run(";"), -1000);
        due(run("low 0;"), -1006);
        due(run("low 0;;low 0"), -1006);
        due(run(";low 0"), -1000);
        due(run("low 0,low 0"), -1005);
        due(run("low 0low 0"), -1005);
        due(run("low 0;low 0"), 2);
    }

    private static void terms4_scriptFaultOfLettersIsWhereTheyBegin() {
        due(run("lowx 0"), -1000);
        due(run("xlow 0"), -1000);
        due(run("lo 0"), -1000);
        due(run("newlow 0"), -1000);
        due(run("low 0;dropz 0"), -1006);
        due(run("low 0;zdrop 0"), -1006);
        due(run("low 0;su 0 0"), -1006);
        due(run("fraction 1 7 10"), -1000);
        // the first and the last letter
        due(run("lowa"), -1000);
        due(run("lowz"), -1000);
    }

    private static void terms4_scriptFaultOfLettersUpToTheEnd() {
        due(run("l"), -1000);
        due(run("lo"), -1000);
        due(run("dro"), -1000);
        due(run("low 0;n"), -1006);
        due(run("low 0;ne"), -1006);
        due(run("low 0;neww"), -1006);
    }

    private static void terms4_scriptFaultBehindAWholeWord() {
        due(run("low"), -1003);
        due(run("drop"), -1004);
        due(run("low;"), -1003);
        due(run("low`"), -1003);
        due(run("low{"), -1003);
        due(run("lowZ"), -1003);
        due(run("low 0;mul"), -1009);
    }

    private static void terms4_scriptFaultOfOtherSigns() {
        due(run("Low 0"), -1000);
        due(run("0"), -1000);
        due(run("\0"), -1000);
        due(run("{low 0"), -1000);
        due(run("low 0;`"), -1006);
        due(run("low 0;\u00ec"), -1006);
        due(run("low\u00a00"), -1003);
        due(run("low 0\u00bblow 0"), -1005);
    }

    private static void terms4_scriptFaultAtTheTapesEnd() {
        String all = "low 0;low 0;low 0;low 0;low 0;low 0;low 0;low 0;low 0;low 0;low 0;low 0;";
        due(run(all + "low 0000"), 13);
        due(run(all + "new 0001"), -1080);
        due(run(all + "low 0;lo"), -1078);
        due(run(all + "low 00;l"), -1079);
        due(run(all + "low 0;"), -1078);
        due(run(all + "low 000;"), -1080);
    }

    private static void terms4_commandsAreDoneTillOneIsRefused() {
        TurningFractions x = with(1, 7, 10);
        due(run(x, "mul 0 2;mul 0 1000;mul 0 3"), -2001);
        due(x.of(0, 0), 2);
        due(run(x, "drop 1;mul 0 3"), -2000);
        due(x.of(0, 0), 2);
        due(run(x, "mul 0 3;mul 0 3;drop 9"), -2002);
        due(x.of(0, 0), 18);
    }

    private static void terms4_holdersHoldNothingAtFirst() {
        TurningFractions x = with(1, 7, 10);
        for (int h = 0; h < 6; h++) {
            due(x.taken(h, 0), -11);
            due(x.was(h, 0), -11);
            due(x.put(h, 0, 0), -11);
            due(x.get(h, 0), NO);
            due(x.judge(h, 0), -11);
            due(x.lose(h), 0);
        }
    }

    private static void terms4_holdersAre0To5() {
        TurningFractions x = with(1, 7, 10);
        for (int h = 0; h < 6; h++) {
            due(x.row(h, h), h);
        }
        for (int h = 0; h < 6; h++) {
            due(x.put(h, h, 1), -13);
            due(h > 0 ? x.put(h, h - 1, 1) : 1, 1);
        }
        int[] none = {-1, 6, LEAST, MOST};
        for (int h : none) {
            due(x.hold(h, 0), BAD);
            due(x.lose(h), BAD);
            due(x.taken(h, 0), BAD);
            due(x.was(h, 0), BAD);
            due(x.row(h, 1), BAD);
            due(x.put(h, 0, 0), BAD);
            due(x.get(h, 0), NO);
            due(x.judge(h, 0), BAD);
        }
    }

    private static void terms4_heldAsItWas() {
        TurningFractions x = with(1, 7, 10);
        x.hold(0, 0);
        x.multiply(0, 7);
        due(x.taken(0, 0), 1);
        x.drop(0);
        due(x.taken(0, 2), 6);
        due(x.was(0, 1), 4);
    }

    private static void terms4_rowIs0AtFirst() {
        TurningFractions x = new TurningFractions();
        x.row(0, 40);
        for (int i = 0; i < 40; i++) {
            due(x.get(0, i), 0);
            x.put(0, i, i + 1);
        }
        x.row(0, 40);
        for (int i = 0; i < 40; i++) {
            due(x.get(0, i), 0);
        }
    }

    private static void terms4_takenForItsOwnKindAlone() {
        TurningFractions ending = holding(3, 8, 10);
        due(ending.taken(0, 0), 3);
        due(ending.taken(0, 1), 3);
        due(ending.taken(0, 2), -12);
        due(ending.taken(0, 3), -12);
        TurningFractions pure = holding(22, 7, 10);
        due(pure.taken(0, 0), 22);
        due(pure.taken(0, 1), -12);
        due(pure.taken(0, 2), 6);
        due(pure.taken(0, 3), -12);
        TurningFractions mixed = holding(5, 28, 10);
        due(mixed.taken(0, 0), 5);
        due(mixed.taken(0, 1), -12);
        due(mixed.taken(0, 2), -12);
        due(mixed.taken(0, 3), 2);
    }

    private static void terms4_takenOfOneThatEndsAtOnce() {
        TurningFractions x = holding(0, 7, 10);
        due(x.taken(0, 0), 0);
        due(x.taken(0, 1), 0);
        due(x.taken(0, 2), -12);
    }

    private static void terms4_judgedFromDigit0On() {
        // 5 by 12 is 41(6): DIGIT 0 stands ahead of HEAD
        TurningFractions x = with(5, 12, 10);
        x.row(0, 3);
        due(x.judge(0, 0), 0);
        x.put(0, 0, 4);
        due(x.judge(0, 0), 1);
        x.put(0, 1, 1);
        due(x.judge(0, 0), 2);
        x.put(0, 2, 6);
        due(x.judge(0, 0), NOT);
        x.put(0, 0, 14);
        due(x.judge(0, 0), 0);
    }

    private static void terms4_judgedRowOf0() {
        TurningFractions x = with(1, 7, 10);
        x.row(0, 0);
        due(x.judge(0, 0), NOT);
    }

    private static void terms4_judgedRowOf40() {
        TurningFractions x = with(1, 7, 10);
        x.row(0, 40);
        for (int i = 0; i < 40; i++) {
            due(x.judge(0, 0), i);
            x.put(0, i, x.digit(0, i));
        }
        due(x.judge(0, 0), NOT);
        x.put(0, 39, -1);
        due(x.judge(0, 0), 39);
    }

    private static void terms4_imageKeepsFractionsAndListAlone() {
        TurningFractions x = with(1, 7, 10);
        x.list(9, 8);
        x.image();
        x.row(0, 3);
        x.hold(1, 0);
        feed(x, "0.5");
        x.multiply(0, 2);
        x.list(20, 3);
        due(x.undo(), 1);
        due(fractionOf(x, 0), "1/7");
        due(x.count(1), 8);
        due(x.count(2), 8);
        due(x.count(3), 3);
        due(x.read(10), 1);
        due(fractionOf(x, 1), "1/2");
        due(x.lose(0), 2);
        due(x.taken(1, 0), 1);
        due(x.lose(1), 1);
    }

    // ======== Answers, constants, what is free

    private static void constants_areAsTold() throws Exception {
        // by reflection: javac would write the numbers themselves into this test
        String[] names = {"BAD", "NOT", "FULL", "STATE", "WIDE"};
        int[] numbers = {-1, -2, -3, -5, -6};
        for (int i = 0; i < names.length; i++) {
            due(TurningFractions.class.getField(names[i]).getInt(null), numbers[i]);
        }
        due(TurningFractions.class.getField("NO").getLong(null), -9223372036854775807L - 1);
    }

    private static void answers_wideAbove9999() {
        due(with(3333, 1, 10).multiply(0, 3), 9999);
        due(with(5000, 1, 10).multiply(0, 2), WIDE);
    }

    private static void answers_wideBAbove999() {
        TurningFractions x = with(1, 27, 10);
        x.fraction(1, 37, 10);
        due(x.sum(0, 1), 2);
        due(fractionOf(x, 2), "64/999");
        x = with(1, 8, 10);
        x.fraction(1, 125, 10);
        due(x.sum(0, 1), WIDE);
    }

    private static void answers_noIsToldByLongs() {
        TurningFractions x = with(1, 7, 10);
        due(x.tells(1, 0, 0), NO);
        due(x.get(6, 0), NO);
        due(x.get(0, 0), NO);
        x.hold(0, 0);
        due(x.get(0, 0), NO);
        x.row(0, 1);
        due(x.get(0, 1), NO);
        due(x.get(0, 0), 0);
    }

    private static void answers_allMemoryIsTheClassesOwn() {
        TurningFractions x = with(1, 7, 10);
        TurningFractions y = new TurningFractions();
        x.list(9, 3);
        x.row(0, 2);
        x.feed('1', 1);
        x.image();
        due(y.count(0), 0);
        due(y.count(1), 0);
        due(y.count(2), 10);
        due(y.count(3), 0);
        due(y.lose(0), 0);
        due(y.undo(), STATE);
        y.fraction(5, 12, 4);
        due(fractionOf(x, 0), "1/7");
    }

    private static void free_call512StillHolds() {
        TurningFractions x = with(1, 983, 10);
        for (int call = 2; call < 511; call++) {
            x.digit(0, call);
        }
        due(x.nines(0, 2), 1);
        due(x.of(0, 5), 982);
    }
}
