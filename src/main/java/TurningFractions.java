/**
 * A bench of fractions in all bases; ../shared/DOC.md says what each call must do.
 *
 * <p>The words in capitals in the comments are the document's. Every row that a call needs is made
 * in a constructor and used again, so that no call makes an object.
 */
public final class TurningFractions {
    public static final int BAD = -1, NOT = -2, FULL = -3, STATE = -5, WIDE = -6;
    public static final long NO = Long.MIN_VALUE;

    private static final int NOTHING_HELD = -11, OTHER_KIND = -12, NO_PLACE = -13, BELOW_ZERO = -14;
    private static final int FAULT_ANSWER = -1000, REFUSED_ANSWER = -2000;

    private static final int MOST_FRACTIONS = 8, MOST_A = 9999, MOST_B = 999;
    private static final int LEAST_BASE = 2, MOST_BASE = 16, FIRST_BASE = 10;
    private static final int MOST_FACTOR = 999, MOST_PLACE = 9999, MOST_ORDERED = 9999;
    private static final int MOST_IN_LIST = 400, MOST_ON_TAPE = 80;
    private static final int HOLDERS = 6, MOST_IN_ROW = 40;

    /** No prime is in a B more often: 2 to the 10 is above 999. */
    private static final int MOST_TIMES_A_PRIME = 9;

    /** Stands far above what any loop with this bound needs; it only makes the end plain. */
    private static final int MANY_STEPS = 1000;

    private static final int ENDS = 0, PURE = 1, MIXED = 2;
    private static final int HOLDS_NOTHING = 0, HOLDS_FRACTION = 1, HOLDS_ROW = 2;
    private static final int NO_FAULT = -1, NO_BYTE = -1, NO_WORD = -1;

    private final Shelf fractions = new Shelf();
    private final Denominators denominators = new Denominators();
    private final Tape tape = new Tape();
    private final Numeral numeral = new Numeral();
    private final Script script = new Script();
    private final Holder[] holders = new Holder[HOLDERS];

    private final Shelf keptFractions = new Shelf();
    private final Denominators keptDenominators = new Denominators();
    private boolean imageIsKept = false;

    private final Period period = new Period();
    private final Fraction unit = new Fraction();
    private final int[] ringed = new int[MOST_B + 1];

    public TurningFractions() {
        for (int h = 0; h < holders.length; h++) {
            holders[h] = new Holder();
        }
    }

    // ---- fractions

    public int fraction(int a, int b, int base) {
        if (!isWithin(a, 0, MOST_A) || !isWithin(b, 1, MOST_B) || !isBase(base)) {
            return BAD;
        }
        return fractions.add(a, b, base);
    }

    public int drop(int f) {
        return fractions.takeAway(f);
    }

    public int multiply(int f, int m) {
        Fraction one = fractions.at(f);
        if (one == null || !isWithin(m, 0, MOST_FACTOR)) {
            return BAD;
        }
        int product = one.a * m;
        if (product > MOST_A) {
            return WIDE;
        }
        one.become(product, one.b, one.base);
        return product;
    }

    public int sum(int one, int other) {
        Fraction first = fractions.at(one);
        Fraction second = fractions.at(other);
        if (first == null || second == null) {
            return BAD;
        }
        if (first.base != second.base) {
            return STATE;
        }
        int a = first.a * second.b + second.a * first.b;
        return addInLowestTerms(a, first.b * second.b, first.base);
    }

    public int lowest(int f) {
        Fraction one = fractions.at(f);
        if (one == null) {
            return BAD;
        }
        long common = commonDivisor(one.a, one.b);
        one.become((int) quotient(one.a, common), (int) quotient(one.b, common), one.base);
        return one.b;
    }

    public int of(int f, int what) {
        Fraction one = fractions.at(f);
        if (one == null) {
            return BAD;
        }
        switch (what) {
            case 0:
                return one.a;
            case 1:
                return one.b;
            case 2:
                return one.base;
            case 3:
                return one.whole();
            case 4:
                return one.head;
            case 5:
                return one.length;
            case 6:
                return one.kind();
            default:
                return BAD;
        }
    }

    public int digit(int f, int i) {
        Fraction one = fractions.at(f);
        if (one == null || !isWithin(i, 0, MOST_PLACE)) {
            return BAD;
        }
        return one.digitOf(one.restAt(i));
    }

    public int rest(int f, int i) {
        Fraction one = fractions.at(f);
        if (one == null || !isWithin(i, 0, MOST_PLACE)) {
            return BAD;
        }
        return one.restAt(i);
    }

    public int place(int f, int d) {
        Fraction one = fractions.at(f);
        if (one == null || !isWithin(d, 0, one.base - 1)) {
            return BAD;
        }
        return one.placeOfDigit(d);
    }

    // ---- blocks, shifts

    public int block(int f, int k, int j) {
        Fraction one = fractions.at(f);
        if (one == null || !one.partsInto(k) || !isWithin(j, -1, one.blockWidth(k) - 1)) {
            return BAD;
        }
        period.load(one);
        return period.placeOfBlocks(k, one.blockWidth(k), j, one.base);
    }

    public int nines(int f, int k) {
        Fraction one = fractions.at(f);
        if (one == null || !one.partsInto(k)) {
            return BAD;
        }
        return one.ninesOfBlocks(k);
    }

    public int shift(int f, int m) {
        Fraction one = fractions.at(f);
        if (one == null || !isWithin(m, 1, MOST_FACTOR)) {
            return BAD;
        }
        return one.placeInPeriod(one.turningRestTimes(m));
    }

    public int multiple(int f, int s) {
        Fraction one = fractions.at(f);
        if (one == null || !isWithin(s, 0, one.length - 1)) {
            return BAD;
        }
        int wanted = one.restAt(one.head + s);
        for (int m = 2; m <= MOST_FACTOR; m++) {
            if (one.turningRestTimes(m) == wanted) {
                return m;
            }
        }
        return NOT;
    }

    // ---- orders, cycles

    public int order(int base, int b) {
        if (!isBase(base) || !isWithin(b, 1, MOST_ORDERED)) {
            return BAD;
        }
        if (commonDivisor(base, b) > 1) {
            return NOT;
        }
        int one = remainder(1, b);
        int power = remainder(base, b);
        int k = 1;
        while (power != one && k < b) {
            power = remainder(power * base, b);
            k++;
        }
        return k;
    }

    public int cycles(int base, int b, int what) {
        if (!isBase(base) || !isWithin(b, 2, MOST_B) || !isWithin(what, 0, 1)) {
            return BAD;
        }
        if (commonDivisor(base, b) > 1) {
            return STATE;
        }
        for (int x = 0; x < b; x++) {
            setAt(ringed, x, 0);
        }
        int rings = 0;
        int longest = 0;
        for (int x = 1; x < b; x++) {
            int size = markRing(x, base, b);
            rings += size > 0 ? 1 : 0;
            longest = Math.max(longest, size);
        }
        return what == 0 ? rings : longest;
    }

    public int full(int base, int from, int to, int what) {
        boolean bounds = isWithin(from, 2, MOST_B) && isWithin(to, from, MOST_B);
        if (!isBase(base) || !bounds || !isWithin(what, 0, 2)) {
            return BAD;
        }
        int found = 0;
        int least = NOT;
        int greatest = NOT;
        for (int b = from; b <= to; b++) {
            unit.become(1, b, base);
            if (unit.isFullUnit()) {
                least = found == 0 ? b : least;
                greatest = b;
                found++;
            }
        }
        return what == 0 ? found : what == 1 ? least : greatest;
    }

    // ---- the list

    public int list(int n, int base) {
        if (!isWithin(n, 2, MOST_IN_LIST) || !isBase(base)) {
            return BAD;
        }
        denominators.fillTo(n, base);
        return denominators.length;
    }

    public int thin() {
        boolean denied = tape.bears(0, 4, "not ");
        int word = Denominators.wordOn(tape, denied ? 4 : 0);
        tape.clear();
        if (word == NO_WORD) {
            return BAD;
        }
        denominators.keepOnly(word, !denied);
        return denominators.length;
    }

    public int listed(int i) {
        if (i < 0) {
            return BAD;
        }
        return i < denominators.length ? valueAt(denominators.numbers, i) : NOT;
    }

    // ---- tellers

    public long tells(int f, int kind, int v) {
        Fraction one = fractions.at(f);
        if (one == null || !isWithin(kind, 0, 5) || !isWithin(v, 0, 99)) {
            return NO;
        }
        period.load(one);
        return period.worthTogether(kind, v);
    }

    // ---- texts

    public int feed(int v, int n) {
        if (!isWithin(n, 1, 4)) {
            return BAD;
        }
        if (tape.length + n > MOST_ON_TAPE) {
            return FULL;
        }
        for (int b = n - 1; b >= 0; b--) {
            tape.add((v >>> (8 * b)) & 255);
        }
        return tape.length;
    }

    public int wipe() {
        int had = tape.length;
        tape.clear();
        return had;
    }

    public int spell(int f, int i) {
        Fraction one = fractions.at(f);
        if (one == null || i < -1) {
            return BAD;
        }
        int length = one.spelledLength();
        if (i == -1) {
            return length;
        }
        return i < length ? one.spelledByte(i) : NOT;
    }

    public int read(int base) {
        if (!isBase(base)) {
            return BAD;
        }
        int fault = numeral.parse(tape, base);
        tape.clear();
        if (fault != NO_FAULT) {
            return FAULT_ANSWER - fault;
        }
        return addInLowestTerms(numeral.a, numeral.b, base);
    }

    public int run() {
        int fault = script.parse(tape);
        tape.clear();
        if (fault != NO_FAULT) {
            return FAULT_ANSWER - fault;
        }
        for (int done = 0; done < script.commands; done++) {
            if (doCommand(done) < 0) {
                return REFUSED_ANSWER - done;
            }
        }
        return script.commands;
    }

    // ---- holders, the image

    public int hold(int h, int f) {
        Holder holder = holderAt(h);
        Fraction one = fractions.at(f);
        if (holder == null || one == null) {
            return BAD;
        }
        holder.holdFraction(one);
        return one.kind();
    }

    public int lose(int h) {
        Holder holder = holderAt(h);
        if (holder == null) {
            return BAD;
        }
        int held = holder.held;
        holder.held = HOLDS_NOTHING;
        return held;
    }

    public int taken(int h, int kind) {
        Holder holder = holderAt(h);
        if (holder == null || !isWithin(kind, 0, 3)) {
            return BAD;
        }
        int refusal = holder.refusalAs(HOLDS_FRACTION);
        if (refusal != 0) {
            return refusal;
        }
        Fraction one = holder.fraction;
        if (kind == 0) {
            return one.a;
        }
        // kinds 1, 2, 3 here are the KINDS 0, 1, 2 of a FRACTION
        int wanted = kind - 1;
        if (one.kind() != wanted) {
            return OTHER_KIND;
        }
        return wanted == PURE ? one.length : one.head;
    }

    public int was(int h, int i) {
        Holder holder = holderAt(h);
        if (holder == null || !isWithin(i, 0, MOST_PLACE)) {
            return BAD;
        }
        int refusal = holder.refusalAs(HOLDS_FRACTION);
        if (refusal != 0) {
            return refusal;
        }
        return holder.fraction.digitOf(holder.fraction.restAt(i));
    }

    public int row(int h, int n) {
        Holder holder = holderAt(h);
        if (holder == null || n > MOST_IN_ROW) {
            return BAD;
        }
        if (n < 0) {
            return BELOW_ZERO;
        }
        holder.holdRow(n);
        return n;
    }

    public int put(int h, int i, int v) {
        Holder holder = holderAt(h);
        if (holder == null) {
            return BAD;
        }
        int refusal = holder.refusalAs(HOLDS_ROW);
        if (refusal != 0) {
            return refusal;
        }
        if (!holder.hasPlace(i)) {
            return NO_PLACE;
        }
        setAt(holder.row, i, v);
        return 1;
    }

    public long get(int h, int i) {
        Holder holder = holderAt(h);
        if (holder == null || holder.refusalAs(HOLDS_ROW) != 0 || !holder.hasPlace(i)) {
            return NO;
        }
        return valueAt(holder.row, i);
    }

    public int judge(int h, int f) {
        Holder holder = holderAt(h);
        Fraction one = fractions.at(f);
        if (holder == null || one == null) {
            return BAD;
        }
        int refusal = holder.refusalAs(HOLDS_ROW);
        if (refusal != 0) {
            return refusal;
        }
        return holder.firstUnlike(one);
    }

    public int image() {
        keptFractions.becomeLike(fractions);
        keptDenominators.becomeLike(denominators);
        imageIsKept = true;
        return fractions.length;
    }

    public int undo() {
        if (!imageIsKept) {
            return STATE;
        }
        fractions.becomeLike(keptFractions);
        denominators.becomeLike(keptDenominators);
        return fractions.length;
    }

    public int count(int what) {
        switch (what) {
            case 0:
                return fractions.length;
            case 1:
                return denominators.length;
            case 2:
                return denominators.base;
            case 3:
                return tape.length;
            default:
                return BAD;
        }
    }

    // ---- what several calls need

    private int addInLowestTerms(long a, long b, int base) {
        long common = commonDivisor(a, b);
        long lowestA = quotient(a, common);
        long lowestB = quotient(b, common);
        if (lowestA > MOST_A || lowestB > MOST_B) {
            return WIDE;
        }
        return fractions.add((int) lowestA, (int) lowestB, base);
    }

    /** How many numbers of the ring from x on are marked only now: none, if it was met before. */
    private int markRing(int x, int base, int b) {
        int at = x;
        int size = 0;
        while (size < b && valueAt(ringed, at) == 0) {
            setAt(ringed, at, 1);
            at = remainder(at * base, b);
            size++;
        }
        return size;
    }

    private int doCommand(int n) {
        int first = script.number(n, 0);
        int second = script.number(n, 1);
        switch (script.word(n)) {
            case Script.NEW:
                return fraction(first, second, script.number(n, 2));
            case Script.DROP:
                return drop(first);
            case Script.MUL:
                return multiply(first, second);
            case Script.SUM:
                return sum(first, second);
            case Script.LOW:
                return lowest(first);
            default:
                return BAD;
        }
    }

    private Holder holderAt(int h) {
        return h >= 0 && h < holders.length ? holders[h] : null;
    }

    private static boolean isWithin(int number, int least, int most) {
        return number >= least && number <= most;
    }

    private static boolean isBase(int base) {
        return isWithin(base, LEAST_BASE, MOST_BASE);
    }

    private static boolean isPrime(int number) {
        for (int by = 2; by * by <= number; by++) {
            if (remainder(number, by) == 0) {
                return false;
            }
        }
        return number > 1;
    }

    private static long commonDivisor(long one, long other) {
        long large = one;
        long small = other;
        for (int step = 0; step < MANY_STEPS && small != 0; step++) {
            long left = large % small;
            large = small;
            small = left;
        }
        return large;
    }

    private static long power(int base, int exponent) {
        long product = 1;
        for (int step = 0; step < exponent; step++) {
            product *= base;
        }
        return product;
    }

    // No divisor is ever 0 and no index ever outside; the four functions below test it all the
    // same, so that whatever comes the machine itself never throws. (What divides elsewhere tests
    // it on the spot, so that calls do not go deeper.)

    private static int remainder(int number, int by) {
        return by == 0 ? 0 : number % by;
    }

    private static long quotient(long number, long by) {
        return by == 0 ? 0 : number / by;
    }

    private static int valueAt(int[] row, int i) {
        return i >= 0 && i < row.length ? row[i] : 0;
    }

    private static void setAt(int[] row, int i, int value) {
        if (i >= 0 && i < row.length) {
            row[i] = value;
        }
    }

    /** A FRACTION with its HEAD and LENGTH, told anew whenever it becomes another. */
    private static final class Fraction {
        int a = 0;
        int b = 1;
        int base = FIRST_BASE;
        int head = 0;
        int length = 1;
        /** REST HEAD, with which the PERIOD begins. */
        int turningRest = 0;
        /** The greatest divisor of B that is made of primes of the BASE alone. */
        private int fading = 1;

        void become(int newA, int newB, int newBase) {
            a = newA;
            b = newB;
            base = newBase;
            fading = (int) commonDivisor(b, power(base, MOST_TIMES_A_PRIME));
            head = 0;
            turningRest = remainder(a, b);
            while (head < b && !turns(turningRest)) {
                turningRest = restAfter(turningRest);
                head++;
            }
            length = 1;
            int rest = restAfter(turningRest);
            while (length < b && rest != turningRest) {
                rest = restAfter(rest);
                length++;
            }
        }

        void becomeLike(Fraction other) {
            a = other.a;
            b = other.b;
            base = other.base;
            head = other.head;
            length = other.length;
            turningRest = other.turningRest;
            fading = other.fading;
        }

        /**
         * Whether a REST comes again. Modulo the part of B that has no prime of the BASE, times
         * the BASE only changes the order of the numbers, so that each comes again; modulo the
         * fading part it ends in 0 and stays there. So just the multiples of that part come again.
         */
        private boolean turns(int rest) {
            return fading == 0 || rest % fading == 0;
        }

        int restAfter(int rest) {
            return b == 0 ? 0 : rest * base % b;
        }

        int digitOf(int rest) {
            return (int) quotient(rest * base, b);
        }

        int restAt(int i) {
            int same = i < head ? i : head + remainder(i - head, length);
            int rest = remainder(a, b);
            for (int step = 0; step < same; step++) {
                rest = restAfter(rest);
            }
            return rest;
        }

        int whole() {
            return (int) quotient(a, b);
        }

        boolean ends() {
            return turningRest == 0;
        }

        int kind() {
            if (ends()) {
                return ENDS;
            }
            return head == 0 ? PURE : MIXED;
        }

        /** Whether B is FULL, of 1 by B. */
        boolean isFullUnit() {
            return !ends() && length == b - 1;
        }

        int placeOfDigit(int d) {
            int rest = remainder(a, b);
            for (int i = 0; i < head + length; i++) {
                if (digitOf(rest) == d) {
                    return i;
                }
                rest = restAfter(rest);
            }
            return NOT;
        }

        boolean partsInto(int blocks) {
            return isWithin(blocks, 1, length) && remainder(length, blocks) == 0;
        }

        int blockWidth(int blocks) {
            return (int) quotient(length, blocks);
        }

        /**
         * NINES without long numbers: a block of w DIGITS is (the REST it begins with times g to
         * the w, less the REST the next one begins with) by B. All together, going round, SUM is
         * (g to the w, less 1) times (those RESTS together by B).
         */
        int ninesOfBlocks(int blocks) {
            int width = blockWidth(blocks);
            int together = 0;
            int rest = turningRest;
            for (int i = 0; i < length; i++) {
                together += remainder(i, width) == 0 ? rest : 0;
                rest = restAfter(rest);
            }
            return remainder(together, b) == 0 ? (int) quotient(together, b) : NOT;
        }

        /** REST HEAD of m times A by B. */
        int turningRestTimes(int m) {
            int rest = remainder(m * a, b);
            for (int step = 0; step < b && !turns(rest); step++) {
                rest = restAfter(rest);
            }
            return rest;
        }

        /**
         * The place in the PERIOD from which it goes on as from a REST of the same B. Unlike RESTS
         * of one B have unlike DIGITS, so that looking for the REST is enough.
         */
        int placeInPeriod(int wanted) {
            int rest = turningRest;
            for (int s = 0; s < length; s++) {
                if (rest == wanted) {
                    return s;
                }
                rest = restAfter(rest);
            }
            return NOT;
        }

        int spelledLength() {
            int spelled = wholeDigits();
            if (remainder(a, b) != 0) {
                spelled += 1 + head;
            }
            if (!ends()) {
                spelled += 2 + length;
            }
            return spelled;
        }

        int spelledByte(int i) {
            int wholes = wholeDigits();
            if (i < wholes) {
                return signOf(wholeDigit(wholes - 1 - i));
            }
            if (i == wholes) {
                return '.';
            }
            int behind = i - wholes - 1;
            if (behind < head) {
                return signOf(digitOf(restAt(behind)));
            }
            if (behind == head) {
                return '(';
            }
            return behind <= head + length ? signOf(digitOf(restAt(behind - 1))) : ')';
        }

        private int wholeDigits() {
            long left = quotient(whole(), base);
            int digits = 1;
            while (left > 0 && digits < MANY_STEPS) {
                left = quotient(left, base);
                digits++;
            }
            return digits;
        }

        /** The digit of WHOLE at a place from the last one (0) on. */
        private int wholeDigit(int placeFromLast) {
            long left = whole();
            for (int step = 0; step < placeFromLast; step++) {
                left = quotient(left, base);
            }
            return remainder((int) left, base);
        }

        private static int signOf(int digit) {
            return digit < 10 ? '0' + digit : 'a' + digit - 10;
        }
    }

    /** The FRACTIONS in their order. */
    private static final class Shelf {
        private final Fraction[] places = new Fraction[MOST_FRACTIONS];
        int length = 0;

        Shelf() {
            for (int f = 0; f < places.length; f++) {
                places[f] = new Fraction();
            }
        }

        Fraction at(int f) {
            return f >= 0 && f < length && f < places.length ? places[f] : null;
        }

        int add(int a, int b, int base) {
            if (length >= places.length) {
                return FULL;
            }
            places[length].become(a, b, base);
            length++;
            return length - 1;
        }

        int takeAway(int f) {
            if (at(f) == null) {
                return BAD;
            }
            for (int i = f; i + 1 < length && i + 1 < places.length; i++) {
                places[i].becomeLike(places[i + 1]);
            }
            length--;
            return length;
        }

        void becomeLike(Shelf other) {
            for (int f = 0; f < places.length && f < other.places.length; f++) {
                places[f].becomeLike(other.places[f]);
            }
            length = other.length;
        }
    }

    /** The DIGITS of a PERIOD in a row, for what needs them from behind or by their places. */
    private static final class Period {
        static final int PLAIN = 0, PLACED = 1, SIGNED = 2, SQUARED = 3, CAPPED = 4, OVER = 5;

        private final int[] digits = new int[MOST_B];
        private int length = 0;

        void load(Fraction one) {
            length = one.length;
            int rest = one.turningRest;
            for (int i = 0; i < length; i++) {
                setAt(digits, i, one.digitOf(rest));
                rest = one.restAfter(rest);
            }
        }

        /** PLACE j of the SUM of blocks of a width, summed as by hand; OVER, if j is -1. */
        int placeOfBlocks(int blocks, int width, int j, int base) {
            int carry = 0;
            for (int column = 0; column < width; column++) {
                int together = carry;
                for (int i = 1; i <= blocks; i++) {
                    together += valueAt(digits, i * width - 1 - column);
                }
                if (column == j) {
                    return remainder(together, base);
                }
                carry = (int) quotient(together, base);
            }
            return carry;
        }

        long worthTogether(int kind, int v) {
            long together = 0;
            for (int i = 0; i < length; i++) {
                together += worth(kind, i, valueAt(digits, i), v);
            }
            return together;
        }

        private static int worth(int kind, int i, int d, int v) {
            switch (kind) {
                case PLAIN:
                    return d;
                case PLACED:
                    return d * (i + 1);
                case SIGNED:
                    return i % 2 == 0 ? d * (i + 1) : -d * (i + 1);
                case SQUARED:
                    return d * d;
                case CAPPED:
                    return Math.min(d * d, v);
                case OVER:
                    return d > v ? 1 : 0;
                default:
                    return 0;
            }
        }
    }

    /** THE LIST with its BASE. */
    private static final class Denominators {
        private static final int IS_ENDING = 0, IS_PURE = 1, IS_MIXED = 2, IS_FULL = 3;
        private static final int IS_EVEN = 4, IS_ODD = 5, IS_HALF = 6, IS_PRIME = 7, WORDS = 8;

        final int[] numbers = new int[MOST_IN_LIST - 1];
        int length = 0;
        int base = FIRST_BASE;
        private final Fraction unit = new Fraction();

        void fillTo(int n, int newBase) {
            base = newBase;
            length = n - 1;
            for (int i = 0; i < length; i++) {
                setAt(numbers, i, i + 2);
            }
        }

        void becomeLike(Denominators other) {
            base = other.base;
            length = other.length;
            for (int i = 0; i < length; i++) {
                setAt(numbers, i, valueAt(other.numbers, i));
            }
        }

        /** The WORD that the tape's bytes from a place to the end are. */
        static int wordOn(Tape tape, int from) {
            for (int word = 0; word < WORDS; word++) {
                if (tape.bears(from, tape.length, wordText(word))) {
                    return word;
                }
            }
            return NO_WORD;
        }

        private static String wordText(int word) {
            switch (word) {
                case IS_ENDING:
                    return "ends";
                case IS_PURE:
                    return "pure";
                case IS_MIXED:
                    return "mixed";
                case IS_FULL:
                    return "full";
                case IS_EVEN:
                    return "even";
                case IS_ODD:
                    return "odd";
                case IS_HALF:
                    return "half";
                default:
                    return "prime";
            }
        }

        void keepOnly(int word, boolean so) {
            int left = 0;
            for (int i = 0; i < length; i++) {
                int b = valueAt(numbers, i);
                if (isSo(word, b) == so) {
                    setAt(numbers, left, b);
                    left++;
                }
            }
            length = left;
        }

        private boolean isSo(int word, int b) {
            unit.become(1, b, base);
            boolean even = unit.length % 2 == 0;
            switch (word) {
                case IS_ENDING:
                    return unit.ends();
                case IS_PURE:
                    return unit.kind() == PURE;
                case IS_MIXED:
                    return unit.kind() == MIXED;
                case IS_FULL:
                    return unit.isFullUnit();
                case IS_EVEN:
                    return !unit.ends() && even;
                case IS_ODD:
                    return !unit.ends() && !even;
                case IS_HALF:
                    return !unit.ends() && even && unit.ninesOfBlocks(2) == 1;
                case IS_PRIME:
                    return isPrime(b);
                default:
                    return false;
            }
        }
    }

    /** THE TAPE, and a reading place on it for what parses it. */
    private static final class Tape {
        private static final int MOST_DIGITS = 4;

        private final int[] bytes = new int[MOST_ON_TAPE];
        int length = 0;
        int at = 0;
        /** What takeDigits() reads behind: the number of the digits read up to now. */
        long number = 0;

        void add(int value) {
            if (length < bytes.length) {
                setAt(bytes, length, value);
                length++;
            }
        }

        void clear() {
            length = 0;
        }

        int byteAt(int i) {
            return i >= 0 && i < length ? valueAt(bytes, i) : NO_BYTE;
        }

        /** Whether the bytes from one place up to (not with) another are a text. */
        boolean bears(int from, int to, String text) {
            if (to - from != text.length()) {
                return false;
            }
            for (int i = 0; i < text.length(); i++) {
                if (byteAt(from + i) != text.charAt(i)) {
                    return false;
                }
            }
            return true;
        }

        boolean isAtEnd() {
            return at >= length;
        }

        boolean takes(char sign) {
            if (byteAt(at) != sign) {
                return false;
            }
            at++;
            return true;
        }

        void takeLetters() {
            while (at < length && isWithin(byteAt(at), 'a', 'z')) {
                at++;
            }
        }

        /** How many digits, 4 at most, come next; the number goes on with them. */
        int takeDigits(int base) {
            int digits = 0;
            while (digits < MOST_DIGITS && isWithin(digitOn(at), 0, base - 1)) {
                number = number * base + digitOn(at);
                at++;
                digits++;
            }
            return digits;
        }

        private int digitOn(int i) {
            int value = byteAt(i);
            if (isWithin(value, '0', '9')) {
                return value - '0';
            }
            return isWithin(value, 'a', 'f') ? value - 'a' + 10 : -1;
        }
    }

    /** What a NUMERAL on THE TAPE is worth: A by B, not yet in LOWEST terms. */
    private static final class Numeral {
        long a = 0;
        long b = 1;

        /** The FAULT, or NO_FAULT. */
        int parse(Tape tape, int base) {
            tape.at = 0;
            tape.number = 0;
            b = 1;
            if (tape.takeDigits(base) == 0) {
                return tape.at;
            }
            boolean bracket = false;
            if (tape.takes('.')) {
                int behind = tape.takeDigits(base);
                b = power(base, behind);
                bracket = tape.takes('(');
                if (behind == 0 && !bracket) {
                    return tape.at;
                }
            }
            a = tape.number;
            if (bracket && !takesPeriod(tape, base)) {
                return tape.at;
            }
            return tape.isAtEnd() ? NO_FAULT : tape.at;
        }

        private boolean takesPeriod(Tape tape, int base) {
            tape.number = 0;
            int again = tape.takeDigits(base);
            if (again == 0 || !tape.takes(')')) {
                return false;
            }
            long allNines = power(base, again) - 1;
            a = a * allNines + tape.number;
            b = b * allNines;
            return true;
        }
    }

    /** The COMMANDS of a SCRIPT. */
    private static final class Script {
        static final int NEW = 0, DROP = 1, MUL = 2, SUM = 3, LOW = 4;
        private static final int WORDS = 5, MOST_NUMBERS = 3;
        /** More than 80 bytes can tell: the shortest COMMAND with its ; takes 6. */
        private static final int MOST_COMMANDS = 14;

        private final int[] words = new int[MOST_COMMANDS];
        private final int[] numbers = new int[MOST_COMMANDS * MOST_NUMBERS];
        int commands = 0;

        int word(int n) {
            return valueAt(words, n);
        }

        int number(int n, int i) {
            return valueAt(numbers, n * MOST_NUMBERS + i);
        }

        /** The FAULT, or NO_FAULT. */
        int parse(Tape tape) {
            tape.at = 0;
            commands = 0;
            while (commands < MOST_COMMANDS) {
                int fault = parseCommand(tape);
                if (fault != NO_FAULT) {
                    return fault;
                }
                commands++;
                if (tape.isAtEnd()) {
                    return NO_FAULT;
                }
                if (!tape.takes(';')) {
                    return tape.at;
                }
            }
            return tape.at;
        }

        private int parseCommand(Tape tape) {
            int from = tape.at;
            tape.takeLetters();
            int word = wordBetween(tape, from);
            if (word == NO_WORD) {
                return from;
            }
            setAt(words, commands, word);
            for (int i = 0; i < numbersOf(word); i++) {
                tape.number = 0;
                if (!tape.takes(' ') || tape.takeDigits(10) == 0) {
                    return tape.at;
                }
                setAt(numbers, commands * MOST_NUMBERS + i, (int) tape.number);
            }
            return NO_FAULT;
        }

        private static int wordBetween(Tape tape, int from) {
            for (int word = 0; word < WORDS; word++) {
                if (tape.bears(from, tape.at, wordText(word))) {
                    return word;
                }
            }
            return NO_WORD;
        }

        private static String wordText(int word) {
            switch (word) {
                case NEW:
                    return "new";
                case DROP:
                    return "drop";
                case MUL:
                    return "mul";
                case SUM:
                    return "sum";
                default:
                    return "low";
            }
        }

        private static int numbersOf(int word) {
            switch (word) {
                case NEW:
                    return 3;
                case MUL:
                case SUM:
                    return 2;
                default:
                    return 1;
            }
        }
    }

    /** A HOLDER: a FRACTION as it was, or a ROW. */
    private static final class Holder {
        int held = HOLDS_NOTHING;
        final Fraction fraction = new Fraction();
        final int[] row = new int[MOST_IN_ROW];
        int rowLength = 0;

        void holdFraction(Fraction one) {
            held = HOLDS_FRACTION;
            fraction.becomeLike(one);
        }

        void holdRow(int n) {
            held = HOLDS_ROW;
            rowLength = n;
            for (int i = 0; i < n; i++) {
                setAt(row, i, 0);
            }
        }

        /** Why it cannot be taken for what is wanted; 0, if it can. */
        int refusalAs(int wanted) {
            if (held == HOLDS_NOTHING) {
                return NOTHING_HELD;
            }
            return held == wanted ? 0 : OTHER_KIND;
        }

        boolean hasPlace(int i) {
            return isWithin(i, 0, rowLength - 1);
        }

        /** The first place at which the ROW is otherwise than the DIGITS; NOT, if none is. */
        int firstUnlike(Fraction one) {
            int rest = one.restAt(0);
            for (int i = 0; i < rowLength; i++) {
                if (valueAt(row, i) != one.digitOf(rest)) {
                    return i;
                }
                rest = one.restAfter(rest);
            }
            return NOT;
        }
    }
}
