/** Answers worked out by hand from the document, promise by promise. */
public final class PromiseTest {
    private static final int BAD = -1, NOT = -2, FULL = -3, STATE = -5, WIDE = -6;
    private static final int LEAST = Integer.MIN_VALUE, MOST = Integer.MAX_VALUE;
    private static final long NO = Long.MIN_VALUE;
    private static int wrong = 0;
    private static int asked = 0;
    private static String promise = "";

    public static void main(String[] args) {
        aNewObject();
        fractions();
        drops();
        multiplications();
        sums();
        lowestTerms();
        whatIsOfAFraction();
        digitsAndRests();
        places();
        blocks();
        nines();
        shifts();
        multiples();
        orders();
        cycles();
        fullOnes();
        lists();
        thinning();
        thinningByNoWord();
        tellers();
        feedingAndWiping();
        spelling();
        reading();
        faultsOfNumerals();
        refusalsOfNumerals();
        scripts();
        faultsOfScripts();
        refusalsOfScripts();
        heldFractions();
        losing();
        takenForKinds();
        rows();
        judging();
        images();
        counts();
        System.out.println("PromiseTest: " + asked + " answers, " + wrong + " wrong");
        if (wrong != 0) {
            System.exit(1);
        }
    }

    private static void due(long got, long want) {
        asked++;
        if (got != want) {
            wrong++;
            int line = new Throwable().getStackTrace()[1].getLineNumber();
            System.out.println(promise + ", line " + line + ": answered " + got + ", due is " + want);
        }
    }

    private static TurningFractions bench(String tested) {
        promise = tested;
        return new TurningFractions();
    }

    /** A bench with one fraction, number 0. */
    private static TurningFractions with(int a, int b, int base) {
        TurningFractions x = new TurningFractions();
        x.fraction(a, b, base);
        return x;
    }

    private static void feed(TurningFractions x, String text) {
        for (int i = 0; i < text.length(); i++) {
            x.feed(text.charAt(i), 1);
        }
    }

    private static int read(TurningFractions x, String text, int base) {
        x.wipe();
        feed(x, text);
        return x.read(base);
    }

    private static int run(TurningFractions x, String text) {
        x.wipe();
        feed(x, text);
        int answer = x.run();
        due(x.count(3), 0);
        return answer;
    }

    private static int thin(TurningFractions x, String word) {
        x.wipe();
        feed(x, word);
        int answer = x.thin();
        due(x.count(3), 0);
        return answer;
    }

    private static void aNewObject() {
        TurningFractions x = bench("1 a new object");
        due(x.count(0), 0);
        due(x.count(1), 0);
        due(x.count(2), 10);
        due(x.count(3), 0);
        due(x.of(0, 0), BAD);
        due(x.listed(0), NOT);
        due(x.wipe(), 0);
        due(x.undo(), STATE);
        for (int h = 0; h < 6; h++) {
            due(x.lose(h), 0);
        }
    }

    private static void fractions() {
        TurningFractions x = bench("2 fraction");
        due(x.fraction(-1, 1, 10), BAD);
        due(x.fraction(10000, 1, 10), BAD);
        due(x.fraction(1, 0, 10), BAD);
        due(x.fraction(1, 1000, 10), BAD);
        due(x.fraction(1, 1, 1), BAD);
        due(x.fraction(1, 1, 17), BAD);
        due(x.fraction(LEAST, MOST, LEAST), BAD);
        due(x.count(0), 0);
        due(x.fraction(0, 1, 2), 0);
        due(x.fraction(9999, 999, 16), 1);
        for (int f = 2; f < 8; f++) {
            due(x.fraction(f, 7, 10), f);
        }
        due(x.fraction(1, 7, 10), FULL);
        due(x.fraction(1, 7, 17), BAD);
        due(x.count(0), 8);
        due(x.of(1, 0), 9999);
        due(x.of(1, 1), 999);
        due(x.of(7, 0), 7);
    }

    private static void drops() {
        TurningFractions x = bench("3 drop");
        due(x.drop(0), BAD);
        for (int f = 0; f < 8; f++) {
            x.fraction(f + 10, 7 + f, 2 + f);
        }
        due(x.drop(8), BAD);
        due(x.drop(-1), BAD);
        due(x.drop(MOST), BAD);
        due(x.drop(7), 7);
        due(x.drop(2), 6);
        due(x.of(1, 0), 11);
        due(x.of(2, 0), 13);
        due(x.of(2, 1), 10);
        due(x.of(2, 2), 5);
        due(x.of(5, 0), 16);
        due(x.of(6, 0), BAD);
        due(x.drop(0), 5);
        due(x.of(0, 0), 11);
        due(x.fraction(1, 3, 10), 5);
    }

    private static void multiplications() {
        TurningFractions x = bench("4 multiply");
        due(x.multiply(0, 1), BAD);
        x.fraction(11, 14, 10);
        due(x.multiply(0, -1), BAD);
        due(x.multiply(0, 1000), BAD);
        due(x.multiply(1, 2), BAD);
        due(x.multiply(0, 910), WIDE);
        due(x.of(0, 0), 11);
        due(x.multiply(0, 909), 9999);
        due(x.of(0, 1), 14);
        due(x.multiply(0, 2), WIDE);
        due(x.multiply(0, 999), WIDE);
        due(x.multiply(0, 1), 9999);
        due(x.multiply(0, 0), 0);
        due(x.of(0, 6), 0);
        due(x.multiply(0, 999), 0);
        x.fraction(1, 7, 10);
        due(x.multiply(1, 7), 7);
        due(x.of(1, 5), 1);
        due(x.of(1, 6), 0);
    }

    private static void sums() {
        TurningFractions x = bench("5 sum");
        due(x.sum(0, 0), BAD);
        x.fraction(1, 6, 10);
        x.fraction(1, 10, 10);
        x.fraction(1, 6, 9);
        due(x.sum(0, 3), BAD);
        due(x.sum(-1, 0), BAD);
        due(x.sum(0, 2), STATE);
        due(x.sum(0, 1), 3);
        due(x.of(3, 0), 4);
        due(x.of(3, 1), 15);
        due(x.of(3, 2), 10);
        due(x.sum(2, 2), 4);
        due(x.of(4, 0), 1);
        due(x.of(4, 1), 3);
        due(x.of(4, 2), 9);
        x.fraction(1, 997, 10);
        due(x.sum(0, 5), WIDE);
        x.drop(5);
        x.fraction(9999, 2, 10);
        due(x.sum(5, 5), 6);
        due(x.of(6, 0), 9999);
        due(x.of(6, 1), 1);
        due(x.sum(6, 0), WIDE);
        x.fraction(0, 5, 10);
        due(x.count(0), 8);
        due(x.sum(6, 6), WIDE);
        due(x.sum(0, 2), STATE);
        due(x.sum(0, 8), BAD);
        due(x.sum(7, 7), FULL);
        x.drop(0);
        due(x.sum(6, 6), 7);
        due(x.of(7, 0), 0);
        due(x.of(7, 1), 1);
    }

    private static void lowestTerms() {
        promise = "6 lowest";
        TurningFractions x = with(84, 36, 10);
        due(x.lowest(1), BAD);
        due(x.lowest(-1), BAD);
        due(x.lowest(0), 3);
        due(x.of(0, 0), 7);
        due(x.of(0, 5), 1);
        due(x.lowest(0), 3);
        x.fraction(0, 999, 10);
        due(x.lowest(1), 1);
        due(x.of(1, 0), 0);
        x.fraction(9999, 999, 10);
        due(x.lowest(2), 111);
        due(x.of(2, 0), 1111);
    }

    private static void whatIsOfAFraction() {
        promise = "7 of";
        TurningFractions x = with(101, 12, 10);
        int[] of = {101, 12, 10, 8, 2, 1, 2};
        for (int what = 0; what < of.length; what++) {
            due(x.of(0, what), of[what]);
        }
        due(x.of(0, -1), BAD);
        due(x.of(0, 7), BAD);
        due(x.of(1, 0), BAD);
        due(x.of(LEAST, 0), BAD);
        // 0 by 5 ends at once; 1 by 512 in base 2 ends at place 9; 1 by 997 turns through 166 rests
        x.fraction(0, 5, 10);
        due(x.of(1, 4), 0);
        due(x.of(1, 5), 1);
        due(x.of(1, 6), 0);
        x.fraction(1, 512, 2);
        due(x.of(2, 4), 9);
        due(x.of(2, 5), 1);
        due(x.of(2, 6), 0);
        x.fraction(1, 997, 10);
        due(x.of(3, 4), 0);
        due(x.of(3, 5), 166);
        due(x.of(3, 6), 1);
        // not in lowest terms: 2 by 14 turns as 1 by 7 does, 7 by 14 ends
        x.fraction(2, 14, 10);
        due(x.of(4, 4), 0);
        due(x.of(4, 5), 6);
        due(x.of(4, 6), 1);
        x.fraction(7, 14, 10);
        due(x.of(5, 4), 1);
        due(x.of(5, 6), 0);
        x.fraction(1, 983, 10);
        due(x.of(6, 5), 982);
    }

    private static void digitsAndRests() {
        promise = "8 digit, 9 rest";
        TurningFractions x = with(23, 12, 10);
        int[] rests = {11, 2, 8, 8};
        int[] digits = {9, 1, 6, 6};
        for (int i = 0; i < 4; i++) {
            due(x.rest(0, i), rests[i]);
            due(x.digit(0, i), digits[i]);
        }
        due(x.rest(0, 9999), 8);
        due(x.digit(0, 9999), 6);
        due(x.rest(0, 10000), BAD);
        due(x.digit(0, 10000), BAD);
        due(x.rest(0, -1), BAD);
        due(x.digit(0, -1), BAD);
        due(x.rest(1, 0), BAD);
        due(x.digit(1, 0), BAD);
        x.fraction(15, 16, 16);
        due(x.digit(1, 0), 15);
        due(x.digit(1, 1), 0);
        due(x.rest(1, 1), 0);
        x.fraction(5, 7, 10);
        due(x.digit(2, 6000), 7);
        due(x.rest(2, 6001), 1);
    }

    private static void places() {
        promise = "10 place";
        TurningFractions x = with(7, 12, 10);
        due(x.place(0, 5), 0);
        due(x.place(0, 8), 1);
        due(x.place(0, 3), 2);
        due(x.place(0, 4), NOT);
        due(x.place(0, 10), BAD);
        due(x.place(0, -1), BAD);
        due(x.place(1, 0), BAD);
        x.fraction(3, 8, 10);
        due(x.place(1, 0), 3);
        x.fraction(1, 3, 2);
        due(x.place(2, 1), 1);
        due(x.place(2, 2), BAD);
        x.fraction(15, 17, 16);
        due(x.place(3, 14), 0);
        due(x.place(3, 15), NOT);
        due(x.place(3, 16), BAD);
        x.fraction(1, 983, 10);
        due(x.place(4, 9), 7);
    }

    private static void blocks() {
        promise = "11 block";
        // 1 by 7: 142857; by 1: 142857; by 6: 27; by 3: 14 + 28 + 57 = 99
        TurningFractions x = with(1, 7, 10);
        due(x.block(0, 1, 5), 1);
        due(x.block(0, 1, 0), 7);
        due(x.block(0, 1, 6), BAD);
        due(x.block(0, 1, -1), 0);
        due(x.block(0, 6, 0), 7);
        due(x.block(0, 6, -1), 2);
        due(x.block(0, 6, 1), BAD);
        due(x.block(0, 3, 1), 9);
        due(x.block(0, 3, 2), BAD);
        due(x.block(0, 2, -2), BAD);
        due(x.block(0, 0, 0), BAD);
        due(x.block(0, 4, 0), BAD);
        due(x.block(0, 7, 0), BAD);
        due(x.block(0, -6, 0), BAD);
        due(x.block(1, 1, 0), BAD);
        // 5 by 13: 384615; by 3: 38 + 46 + 15 = 99; 2 by 13: 153846; by 2: 999
        x.fraction(5, 13, 10);
        due(x.block(1, 3, 0), 9);
        // 1 by 21: 047619; by 2: 047 + 619 = 666; by 3: 04 + 76 + 19 = 99; 20 by 21: 952380, by 3: 95 + 23 + 80 = 198
        x.fraction(20, 21, 10);
        due(x.block(2, 3, 0), 8);
        due(x.block(2, 3, 1), 9);
        due(x.block(2, 3, -1), 1);
        // ends: its PERIOD is one 0
        x.fraction(3, 8, 10);
        due(x.block(3, 1, 0), 0);
        due(x.block(3, 1, -1), 0);
        due(x.block(3, 2, 0), BAD);
        // 1 by 28: 03(571428): the PERIOD begins behind HEAD
        x.fraction(1, 28, 10);
        due(x.block(4, 1, 5), 5);
        due(x.block(4, 2, 0), 9);
    }

    private static void nines() {
        promise = "12 nines";
        TurningFractions x = with(1, 21, 10);
        due(x.nines(0, 1), NOT);
        due(x.nines(0, 2), NOT);
        due(x.nines(0, 3), 1);
        due(x.nines(0, 6), 3);
        due(x.nines(0, 0), BAD);
        due(x.nines(0, -1), BAD);
        due(x.nines(0, 4), BAD);
        due(x.nines(0, 12), BAD);
        due(x.nines(1, 1), BAD);
        x.fraction(20, 21, 10);
        due(x.nines(1, 3), 2);
        x.fraction(0, 3, 10);
        due(x.nines(2, 1), 0);
        // in base 2 every single digit is a number of nines
        x.fraction(1, 7, 2);
        due(x.nines(3, 3), 1);
        due(x.nines(3, 1), NOT);
        x.fraction(3, 28, 10);
        due(x.nines(4, 2), 1);
        x.fraction(1, 983, 10);
        due(x.nines(5, 2), 1);
        due(x.nines(5, 982), 491);
        due(x.nines(5, 1), NOT);
    }

    private static void shifts() {
        promise = "13 shift";
        TurningFractions x = with(1, 7, 10);
        int[] shifts = {0, 2, 1, 4, 5, 3, NOT, 0};
        for (int m = 1; m <= 8; m++) {
            due(x.shift(0, m), shifts[m - 1]);
        }
        due(x.shift(0, 0), BAD);
        due(x.shift(0, 1000), BAD);
        due(x.shift(1, 1), BAD);
        due(x.shift(0, 999), 5);
        // 1 by 13 has two rings of six
        x.fraction(1, 13, 10);
        due(x.shift(1, 2), NOT);
        due(x.shift(1, 10), 1);
        // 5 by 12: 41(6); times 2: 8(3); times 4: 1(6)
        x.fraction(5, 12, 10);
        due(x.shift(2, 2), NOT);
        due(x.shift(2, 4), 0);
        due(x.shift(2, 3), NOT);
        // A times m is far above 9999
        x.fraction(9999, 7, 10);
        due(x.shift(3, 999), 5);
        // 1 by 12: 08(3), also when it has come to another number
        x.fraction(1, 12, 10);
        due(x.shift(4, 1), 0);
        x.drop(3);
        due(x.shift(3, 1), 0);
        // one that ends stays one that ends
        x.fraction(1, 8, 10);
        due(x.shift(4, 3), 0);
        // 1 by 3: (3), times 3 it ends: (0)
        x.fraction(1, 3, 10);
        due(x.shift(5, 3), NOT);
    }

    private static void multiples() {
        promise = "14 multiple";
        TurningFractions x = with(1, 7, 10);
        int[] multiples = {8, 3, 2, 6, 4, 5};
        for (int s = 0; s < 6; s++) {
            due(x.multiple(0, s), multiples[s]);
        }
        due(x.multiple(0, -1), BAD);
        due(x.multiple(0, 6), BAD);
        due(x.multiple(1, 0), BAD);
        x.fraction(3, 8, 10);
        due(x.multiple(1, 0), 2);
        due(x.multiple(1, 1), BAD);
        // 1 by 999: 001, 010, 100; to be itself again it wants m 1000
        x.fraction(1, 999, 10);
        due(x.multiple(2, 0), NOT);
        due(x.multiple(2, 1), 10);
        due(x.multiple(2, 2), 100);
        x.fraction(1, 998, 10);
        due(x.multiple(3, 0), 10);
        // in base 3 only m 999 leaves 1 by 998 as it is
        x.fraction(1, 998, 3);
        due(x.multiple(4, 0), 999);
    }

    private static void orders() {
        TurningFractions x = bench("15 order");
        due(x.order(10, 7), 6);
        due(x.order(10, 1), 1);
        due(x.order(2, 2), NOT);
        due(x.order(3, 2), 1);
        due(x.order(11, 10), 1);
        due(x.order(9, 10), 2);
        due(x.order(16, 17), 2);
        due(x.order(15, 9999), NOT);
        due(x.order(2, 9999), 300);
        due(x.order(10, 9999), 4);
        due(x.order(10, 9967), 9966);
        due(x.order(10, 0), BAD);
        due(x.order(10, 10000), BAD);
        due(x.order(1, 7), BAD);
        due(x.order(17, 7), BAD);
        due(x.order(LEAST, LEAST), BAD);
    }

    private static void cycles() {
        TurningFractions x = bench("16 cycles");
        due(x.cycles(10, 7, 0), 1);
        due(x.cycles(10, 7, 1), 6);
        // 9 by base 10: each of 1 .. 8 leads to itself
        due(x.cycles(10, 9, 0), 8);
        due(x.cycles(10, 9, 1), 1);
        // 21 by base 10: rings of 6 are 2, of 7 14: 1 each, of 3 .. 18: 1
        due(x.cycles(10, 21, 0), 5);
        due(x.cycles(10, 21, 1), 6);
        due(x.cycles(3, 2, 0), 1);
        due(x.cycles(10, 999, 0), 338);
        due(x.cycles(10, 999, 1), 3);
        due(x.cycles(2, 999, 1), 36);
        due(x.cycles(10, 4, 0), STATE);
        due(x.cycles(10, 4, 2), BAD);
        due(x.cycles(10, 7, -1), BAD);
        due(x.cycles(10, 7, 2), BAD);
        due(x.cycles(10, 1, 0), BAD);
        due(x.cycles(10, 1000, 0), BAD);
        due(x.cycles(1, 7, 0), BAD);
        due(x.cycles(17, 7, 0), BAD);
    }

    private static void fullOnes() {
        TurningFractions x = bench("17 full");
        // base 10: 7, 17, 19, 23, 29, 47, 59, 61, 97 up to 100
        due(x.full(10, 2, 100, 0), 9);
        due(x.full(10, 2, 100, 1), 7);
        due(x.full(10, 2, 100, 2), 97);
        due(x.full(10, 97, 97, 0), 1);
        due(x.full(10, 62, 96, 0), 0);
        due(x.full(10, 62, 96, 1), NOT);
        due(x.full(10, 62, 96, 2), NOT);
        due(x.full(10, 2, 999, 2), 983);
        due(x.full(3, 2, 2, 0), 1);
        due(x.full(2, 2, 2, 0), 0);
        due(x.full(2, 2, 13, 0), 4);
        due(x.full(4, 2, 999, 0), 0);
        due(x.full(4, 2, 999, 1), NOT);
        due(x.full(10, 8, 7, 0), BAD);
        due(x.full(10, 1, 7, 0), BAD);
        due(x.full(10, 2, 1000, 0), BAD);
        due(x.full(10, 2, 7, 3), BAD);
        due(x.full(10, 2, 7, -1), BAD);
        due(x.full(1, 2, 7, 0), BAD);
        due(x.full(17, 2, 7, 0), BAD);
        due(x.full(10, LEAST, MOST, 0), BAD);
    }

    private static void lists() {
        TurningFractions x = bench("18 list, 20 listed");
        due(x.list(1, 10), BAD);
        due(x.list(401, 10), BAD);
        due(x.list(10, 1), BAD);
        due(x.list(10, 17), BAD);
        due(x.count(1), 0);
        due(x.list(2, 16), 1);
        due(x.listed(0), 2);
        due(x.listed(1), NOT);
        due(x.count(2), 16);
        due(x.list(400, 2), 399);
        due(x.listed(398), 400);
        due(x.listed(399), NOT);
        due(x.listed(MOST), NOT);
        due(x.listed(-1), BAD);
        due(x.list(0, 3), BAD);
        due(x.count(1), 399);
        due(x.count(2), 2);
    }

    private static void listedAre(TurningFractions x, int... numbers) {
        due(x.count(1), numbers.length);
        for (int i = 0; i < numbers.length; i++) {
            due(x.listed(i), numbers[i]);
        }
        due(x.listed(numbers.length), NOT);
    }

    private static void thinned(String word, int... numbers) {
        TurningFractions x = new TurningFractions();
        x.list(16, 10);
        due(thin(x, word), numbers.length);
        listedAre(x, numbers);
    }

    private static void thinning() {
        promise = "19 thin";
        thinned("ends", 2, 4, 5, 8, 10, 16);
        thinned("not ends", 3, 6, 7, 9, 11, 12, 13, 14, 15);
        thinned("pure", 3, 7, 9, 11, 13);
        thinned("mixed", 6, 12, 14, 15);
        thinned("not mixed", 2, 3, 4, 5, 7, 8, 9, 10, 11, 13, 16);
        thinned("full", 7);
        thinned("even", 7, 11, 13, 14);
        thinned("odd", 3, 6, 9, 12, 15);
        thinned("not odd", 2, 4, 5, 7, 8, 10, 11, 13, 14, 16);
        thinned("half", 7, 11, 13, 14);
        thinned("prime", 2, 3, 5, 7, 11, 13);
        thinned("not prime", 4, 6, 8, 9, 10, 12, 14, 15, 16);
        // 21 and 33 have even LENGTHS, but their halves do not sum to nines
        TurningFractions x = new TurningFractions();
        x.list(33, 10);
        thin(x, "even");
        due(thin(x, "not half"), 2);
        listedAre(x, 21, 33);
        // in base 3 it is otherwise, and one word comes behind another
        x.list(16, 3);
        due(thin(x, "full"), 3);
        listedAre(x, 2, 5, 7);
        due(thin(x, "not prime"), 0);
        due(thin(x, "prime"), 0);
    }

    private static void thinningByNoWord() {
        promise = "19 thin: BAD";
        TurningFractions x = new TurningFractions();
        due(thin(x, ""), BAD);
        due(thin(x, "ends"), 0);
        x.list(16, 10);
        String[] none = {"", "end", "endss", "Ends", "not", "not ", "not  ends", "not not ends", " ends", "ends ", "ends;"};
        for (String word : none) {
            due(thin(x, word), BAD);
        }
        due(x.count(1), 15);
        due(x.count(2), 10);
    }

    private static void tellers() {
        promise = "21 tells";
        // 1 by 28: 03(571428)
        TurningFractions x = with(1, 28, 10);
        due(x.tells(0, 0, 0), 27);
        due(x.tells(0, 1, 0), 5 + 14 + 3 + 16 + 10 + 48);
        due(x.tells(0, 2, 0), 5 - 14 + 3 - 16 + 10 - 48);
        due(x.tells(0, 3, 0), 25 + 49 + 1 + 16 + 4 + 64);
        due(x.tells(0, 4, 20), 20 + 20 + 1 + 16 + 4 + 20);
        due(x.tells(0, 4, 0), 0);
        due(x.tells(0, 5, 5), 2);
        due(x.tells(0, 5, 4), 3);
        due(x.tells(0, 5, 99), 0);
        due(x.tells(0, 4, 99), 159);
        due(x.tells(0, 0, 100), NO);
        due(x.tells(0, 0, -1), NO);
        due(x.tells(0, 6, 0), NO);
        due(x.tells(0, -1, 0), NO);
        due(x.tells(1, 0, 0), NO);
        x.fraction(1, 8, 10);
        due(x.tells(1, 0, 0), 0);
        due(x.tells(1, 5, 0), 0);
        x.fraction(2, 3, 10);
        due(x.tells(2, 2, 0), 6);
    }

    private static void feedingAndWiping() {
        TurningFractions x = bench("22 feed, 23 wipe");
        due(x.feed(65, 0), BAD);
        due(x.feed(65, 5), BAD);
        due(x.feed(65, -1), BAD);
        due(x.wipe(), 0);
        // 0x35612e37 without its highest byte, then read so: "a.7"
        due(x.feed(0x35612e37, 3), 3);
        due(x.read(16), 0);
        due(x.of(0, 0), 167);
        due(x.of(0, 1), 16);
        for (int n = 4; n <= 76; n += 4) {
            due(x.feed(-1, 4), n);
        }
        due(x.feed(0, 3), 79);
        due(x.feed(0, 2), FULL);
        due(x.feed(0, 5), BAD);
        due(x.count(3), 79);
        due(x.feed(0, 1), 80);
        due(x.feed(0, 1), FULL);
        due(x.wipe(), 80);
        due(x.wipe(), 0);
        due(x.feed(0, 1), 1);
    }

    private static void spelled(int a, int b, int base, String text) {
        TurningFractions x = with(a, b, base);
        due(x.spell(0, -1), text.length());
        for (int i = 0; i < text.length(); i++) {
            due(x.spell(0, i), text.charAt(i));
        }
        due(x.spell(0, text.length()), NOT);
    }

    private static void spelling() {
        promise = "24 spell";
        spelled(0, 7, 10, "0");
        spelled(7, 7, 10, "1");
        spelled(1, 7, 10, "0.(142857)");
        spelled(1, 8, 10, "0.125");
        spelled(100, 12, 10, "8.(3)");
        spelled(101, 12, 10, "8.41(6)");
        spelled(9999, 1, 2, "10011100001111");
        spelled(170, 15, 16, "b.(5)");
        spelled(2748, 13, 16, "d3.(627)");
        spelled(4095, 16, 16, "ff.f");
        spelled(1, 28, 10, "0.03(571428)");
        spelled(160, 1, 16, "a0");
        spelled(1, 6, 3, "0.0(1)");
        TurningFractions x = with(1, 7, 10);
        due(x.spell(0, -2), BAD);
        due(x.spell(1, 0), BAD);
        due(x.spell(1, -1), BAD);
        due(x.spell(0, MOST), NOT);
        due(x.spell(0, LEAST), BAD);
    }

    private static void reads(String text, int base, int a, int b) {
        TurningFractions x = new TurningFractions();
        due(read(x, text, base), 0);
        due(x.of(0, 0), a);
        due(x.of(0, 1), b);
        due(x.of(0, 2), base);
        due(x.count(3), 0);
    }

    private static void reading() {
        promise = "25 read";
        reads("0", 10, 0, 1);
        reads("0000", 2, 0, 1);
        reads("9999", 10, 9999, 1);
        reads("0.5", 10, 1, 2);
        reads("00.50", 10, 1, 2);
        reads("0.(9)", 10, 1, 1);
        reads("f.f(f)", 16, 16, 1);
        reads("0.0(0)", 10, 0, 1);
        reads("0.(037)", 10, 1, 27);
        reads("0.(001)", 10, 1, 999);
        reads("1.2(3)", 10, 37, 30);
        reads("1.(10)", 3, 11, 8);
        reads("0.1", 2, 1, 2);
        reads("0.(01)", 2, 1, 3);
        reads("1111.1111(1111)", 2, 16, 1);
        reads("abc", 16, 2748, 1);
        reads("0.0(57)", 10, 19, 330);
        reads("9998.9999(9999)", 10, 9999, 1);
    }

    private static void faulty(String text, int base, int fault) {
        TurningFractions x = with(1, 7, 10);
        due(read(x, text, base), -1000 - fault);
        due(x.count(0), 1);
        due(x.count(3), 0);
    }

    private static void faultsOfNumerals() {
        promise = "25 read: FAULT";
        faulty("", 10, 0);
        faulty(".5", 10, 0);
        faulty("(5)", 10, 0);
        faulty("A", 16, 0);
        faulty("g", 16, 0);
        faulty("5.", 10, 2);
        faulty("5.(", 10, 3);
        faulty("5.()", 10, 3);
        faulty("5.)", 10, 2);
        faulty("5(3)", 10, 1);
        faulty("5.1(", 10, 4);
        faulty("5.1(3", 10, 5);
        faulty("5.1(3)0", 10, 6);
        faulty("5.1(3).", 10, 6);
        faulty("5.1.", 10, 3);
        faulty("12345", 10, 4);
        faulty("1234.12345", 10, 9);
        faulty("1.1234(12345)", 10, 11);
        faulty("1.1234(1234", 10, 11);
        faulty("1.12 ", 10, 4);
        faulty("-1", 10, 0);
        faulty("12", 2, 1);
        faulty("0.a", 10, 2);
        faulty("0.(1f)", 15, 4);
        faulty("1\0", 10, 1);
        faulty("1\u00b1", 10, 1);
    }

    private static void refusalsOfNumerals() {
        promise = "25 read: refusals";
        TurningFractions x = new TurningFractions();
        feed(x, "0.5");
        due(x.read(1), BAD);
        due(x.read(17), BAD);
        due(x.read(LEAST), BAD);
        due(x.count(3), 3);
        due(x.read(10), 0);
        due(read(x, "9999.5", 10), WIDE);
        due(x.count(3), 0);
        due(read(x, "ffff.ffff(ffff)", 16), WIDE);
        due(read(x, "0.(0001)", 10), WIDE);
        due(read(x, "0.0001", 10), WIDE);
        due(read(x, "2710", 16), WIDE);
        due(read(x, "270f", 16), 1);
        for (int f = 2; f < 8; f++) {
            due(read(x, "0.1", 2 + f), f);
        }
        due(read(x, "0.0001", 10), WIDE);
        due(read(x, "0.", 10), -1002);
        due(read(x, "0.1", 10), FULL);
        due(x.count(3), 0);
        due(x.count(0), 8);
    }

    private static void scripts() {
        promise = "26 run";
        TurningFractions x = new TurningFractions();
        due(run(x, "new 1 7 10"), 1);
        due(run(x, "new 0002 0006 010;sum 0 1;mul 1 3;low 1"), 4);
        due(x.count(0), 3);
        due(x.of(1, 0), 1);
        due(x.of(1, 1), 1);
        due(x.of(2, 0), 10);
        due(x.of(2, 1), 21);
        due(run(x, "drop 0;drop 0"), 2);
        due(x.count(0), 1);
        due(x.of(0, 0), 10);
        // 13 of them is the most that 80 bytes can tell
        due(run(x, "low 0;low 0;low 0;low 0;low 0;low 0;low 0;low 0;low 0;low 0;low 0;low 0;low 0"), 13);
        due(run(x, "low 0;low 0;low 0;low 0;low 0;low 0;low 0;low 0;low 0;low 0;low 0;low 0;low 1"), -2012);
        due(run(x, "mul 0 0"), 1);
        due(x.of(0, 0), 0);
        due(x.of(0, 1), 21);
    }

    private static void faultsOfScripts() {
        promise = "26 run: FAULT";
        TurningFractions x = with(1, 7, 10);
        due(run(x, ""), -1000);
        due(run(x, ";"), -1000);
        due(run(x, " low 0"), -1000);
        due(run(x, "Low 0"), -1000);
        due(run(x, "lo"), -1000);
        due(run(x, "lo 0"), -1000);
        due(run(x, "lows 0"), -1000);
        due(run(x, "lowlow 0"), -1000);
        due(run(x, "low"), -1003);
        due(run(x, "low0"), -1003);
        due(run(x, "low;"), -1003);
        due(run(x, "low{ 0"), -1003);
        due(run(x, "low` 0"), -1003);
        due(run(x, "low "), -1004);
        due(run(x, "low  0"), -1004);
        due(run(x, "low x"), -1004);
        due(run(x, "low -1"), -1004);
        due(run(x, "low 0 0"), -1005);
        due(run(x, "low 0 "), -1005);
        due(run(x, "low 0x"), -1005);
        due(run(x, "low 0a"), -1005);
        due(run(x, "low 00000"), -1008);
        due(run(x, "low 0;"), -1006);
        due(run(x, "low 0; low 0"), -1006);
        due(run(x, "low 0;;low 0"), -1006);
        due(run(x, "low 0;lo"), -1006);
        due(run(x, "low 0;lowe"), -1006);
        due(run(x, "low 0;dropp 0"), -1006);
        due(run(x, "low 0;drop"), -1010);
        due(run(x, "mul 0"), -1005);
        due(run(x, "mul 0;"), -1005);
        due(run(x, "mul 0 "), -1006);
        due(run(x, "new 1 7"), -1007);
        due(run(x, "new 1 7 10 "), -1010);
        due(run(x, "new 1 12345 10"), -1010);
        // nothing of a SCRIPT with a FAULT is done
        due(run(x, "drop 0;drop 0;x"), -1014);
        due(x.count(0), 1);
    }

    private static void refusalsOfScripts() {
        promise = "26 run: refusals";
        TurningFractions x = with(1, 7, 10);
        due(run(x, "drop 1"), -2000);
        due(run(x, "new 1 0 10;drop 0"), -2000);
        due(x.count(0), 1);
        due(run(x, "mul 0 5;mul 0 1000;mul 0 3"), -2001);
        due(x.of(0, 0), 5);
        due(run(x, "new 1 3 9;sum 0 0;sum 0 1;drop 0"), -2002);
        due(x.count(0), 3);
        due(run(x, "drop 2;drop 1;mul 0 999;mul 0 999"), -2003);
        due(x.of(0, 0), 4995);
        due(run(x, "sum 0 0;sum 0 0;sum 0 0;sum 0 0;sum 0 0;sum 0 0;sum 0 0;sum 0 0;drop 0"), -2007);
        due(x.count(0), 8);
        due(run(x, "low 8"), -2000);
        due(run(x, "low 9999"), -2000);
    }

    private static void heldFractions() {
        promise = "27 hold, 30 was";
        TurningFractions x = with(1, 7, 10);
        x.fraction(3, 8, 10);
        x.fraction(5, 12, 10);
        due(x.hold(0, 0), 1);
        due(x.hold(1, 1), 0);
        due(x.hold(5, 2), 2);
        due(x.hold(6, 0), BAD);
        due(x.hold(-1, 0), BAD);
        due(x.hold(0, 3), BAD);
        due(x.hold(0, -1), BAD);
        // it is held as it was
        x.multiply(0, 2);
        x.drop(0);
        x.drop(0);
        x.drop(0);
        due(x.was(0, 0), 1);
        due(x.was(0, 9999), 8);
        due(x.was(1, 2), 5);
        due(x.was(1, 3), 0);
        due(x.was(5, 1), 1);
        due(x.was(5, 77), 6);
        due(x.was(5, 10000), BAD);
        due(x.was(5, -1), BAD);
        due(x.was(6, 0), BAD);
        due(x.was(-1, 0), BAD);
        due(x.was(2, 0), -11);
        due(x.was(2, -1), BAD);
        x.row(2, 3);
        due(x.was(2, 0), -12);
        due(x.was(2, 10000), BAD);
        x.fraction(1, 3, 2);
        due(x.hold(2, 0), 1);
        due(x.was(2, 1), 1);
    }

    private static void losing() {
        promise = "28 lose";
        TurningFractions x = with(1, 7, 10);
        due(x.lose(0), 0);
        x.hold(0, 0);
        x.row(5, 0);
        due(x.lose(0), 1);
        due(x.lose(0), 0);
        due(x.lose(5), 2);
        due(x.lose(5), 0);
        due(x.lose(6), BAD);
        due(x.lose(-1), BAD);
        due(x.taken(0, 0), -11);
        due(x.put(5, 0, 0), -11);
        due(x.count(0), 1);
    }

    private static void takenForKinds() {
        promise = "29 taken";
        TurningFractions x = with(22, 7, 10);
        x.fraction(3, 8, 10);
        x.fraction(5, 12, 10);
        x.hold(0, 1);
        x.hold(1, 0);
        x.hold(2, 2);
        x.row(3, 4);
        int[][] taken = {{3, 3, -12, -12}, {22, -12, 6, -12}, {5, -12, -12, 2}, {-12, -12, -12, -12}, {-11, -11, -11, -11}};
        for (int h = 0; h < taken.length; h++) {
            for (int kind = 0; kind < 4; kind++) {
                due(x.taken(h, kind), taken[h][kind]);
            }
            due(x.taken(h, 4), BAD);
            due(x.taken(h, -1), BAD);
        }
        due(x.taken(6, 0), BAD);
        due(x.taken(-1, 0), BAD);
    }

    private static void rows() {
        promise = "31 row, 32 put, 33 get";
        TurningFractions x = with(1, 7, 10);
        due(x.row(0, 41), BAD);
        due(x.row(0, MOST), BAD);
        due(x.row(6, 1), BAD);
        due(x.row(-1, -1), BAD);
        due(x.row(0, -1), -14);
        due(x.row(0, LEAST), -14);
        due(x.lose(0), 0);
        due(x.put(0, 0, 1), -11);
        due(x.get(0, 0), NO);
        due(x.row(0, 40), 40);
        due(x.put(0, 39, LEAST), 1);
        due(x.put(0, 0, MOST), 1);
        due(x.put(0, 40, 1), -13);
        due(x.put(0, -1, 1), -13);
        due(x.get(0, 39), LEAST);
        due(x.get(0, 0), MOST);
        due(x.get(0, 1), 0);
        due(x.get(0, 40), NO);
        due(x.get(0, -1), NO);
        due(x.row(0, -1), -14);
        due(x.get(0, 39), LEAST);
        // a ROW anew is all 0, and a shorter one has no places of the longer one
        due(x.row(0, 2), 2);
        due(x.get(0, 0), 0);
        due(x.get(0, 2), NO);
        due(x.put(0, 2, 1), -13);
        due(x.row(0, 40), 40);
        due(x.get(0, 39), 0);
        due(x.row(1, 0), 0);
        due(x.put(1, 0, 1), -13);
        due(x.get(1, 0), NO);
        due(x.put(6, 0, 1), BAD);
        due(x.put(-1, 0, 1), BAD);
        due(x.get(6, 0), NO);
        due(x.get(-1, 0), NO);
        x.hold(1, 0);
        due(x.put(1, 0, 1), -12);
        due(x.put(1, -1, 1), -12);
        due(x.get(1, 0), NO);
        due(x.row(1, 1), 1);
        due(x.put(1, 0, 5), 1);
    }

    private static void judging() {
        promise = "34 judge";
        TurningFractions x = with(5, 12, 10);
        due(x.judge(0, 0), -11);
        due(x.judge(0, 1), BAD);
        due(x.judge(6, 0), BAD);
        due(x.judge(-1, 0), BAD);
        x.hold(0, 0);
        due(x.judge(0, 0), -12);
        due(x.judge(0, -1), BAD);
        x.row(0, 0);
        due(x.judge(0, 0), NOT);
        x.row(0, 40);
        due(x.judge(0, 0), 0);
        x.put(0, 0, 4);
        due(x.judge(0, 0), 1);
        x.put(0, 1, 1);
        for (int i = 2; i < 40; i++) {
            due(x.judge(0, 0), i);
            x.put(0, i, 6);
        }
        due(x.judge(0, 0), NOT);
        x.put(0, 39, 16);
        due(x.judge(0, 0), 39);
    }

    private static void images() {
        promise = "35 image, 36 undo";
        TurningFractions x = new TurningFractions();
        due(x.undo(), STATE);
        due(x.image(), 0);
        x.fraction(1, 7, 10);
        due(x.undo(), 0);
        due(x.count(0), 0);
        x.fraction(1, 7, 10);
        x.fraction(5, 12, 9);
        x.list(9, 8);
        thin(x, "not ends");
        due(x.image(), 2);
        x.multiply(0, 3);
        x.drop(1);
        x.fraction(3, 8, 10);
        x.fraction(4, 8, 10);
        thin(x, "prime");
        x.list(20, 3);
        x.hold(0, 2);
        x.row(1, 2);
        feed(x, "abc");
        due(x.undo(), 2);
        due(x.of(0, 0), 1);
        due(x.of(0, 5), 6);
        due(x.of(1, 0), 5);
        due(x.of(1, 2), 9);
        due(x.of(2, 0), BAD);
        listedAre(x, 3, 5, 6, 7, 9);
        due(x.count(2), 8);
        // THE TAPE and HOLDERS are as before undo()
        due(x.count(3), 3);
        due(x.taken(0, 0), 4);
        due(x.lose(1), 2);
        // THE IMAGE stays, and is not changed by what comes behind it
        x.lowest(0);
        x.multiply(0, 9);
        x.list(2, 2);
        due(x.undo(), 2);
        due(x.of(0, 0), 1);
        due(x.count(1), 5);
        x.drop(0);
        due(x.image(), 1);
        x.drop(0);
        due(x.undo(), 1);
        due(x.of(0, 0), 5);
    }

    private static void counts() {
        promise = "37 count";
        TurningFractions x = with(1, 7, 10);
        x.fraction(1, 7, 3);
        x.list(12, 5);
        feed(x, "seven b");
        due(x.count(0), 2);
        due(x.count(1), 11);
        due(x.count(2), 5);
        due(x.count(3), 7);
        due(x.count(4), BAD);
        due(x.count(-1), BAD);
        due(x.count(LEAST), BAD);
    }
}
