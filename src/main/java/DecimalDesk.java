/**
 * Ten registers with a decimal each, an integer and a scale, and the arithmetic on them: exact, or
 * rounded in eight ways to a scale or to a precision.
 *
 * <p>Every call works in scratch numbers that the constructor made and stores its result last, so
 * that a call that throws changes nothing, and no call makes an object but its exception (and once a
 * longer row for the text).
 */
public final class DecimalDesk {
    public static final int NONE = -1;

    private static final int REGISTERS = 10;
    private static final int MOST_DIGITS = 1000;
    private static final int FARTHEST_SCALE = 10000;
    private static final int HIGHEST_POWER = 999;
    private static final int POWER_BITS = 10;

    private static final int MODES = 8;
    private static final int UP = 0;
    private static final int CEILING = 2;
    private static final int FLOOR = 3;
    private static final int HALF_UP = 4;
    private static final int HALF_DOWN = 5;
    private static final int HALF_EVEN = 6;
    private static final int NO_ROUNDING = 7;

    private static final int KINDS = 3;
    private static final int WITH_POWERS_OF_TEN = 0;
    private static final int PLAIN = 1;

    private static final int BASE = 1000000000;
    private static final int LIMB_DIGITS = 9;
    private static final int[] TENS = {
        1, 10, 100, 1000, 10000, 100000, 1000000, 10000000, 100000000, 1000000000
    };

    /** 1000 digits. */
    private static final int REGISTER_LIMBS = 112;

    /**
     * The longest number that a call can need is the radicand of a root of 1001 digits, with 2002;
     * a division takes one limb more. What needs more room than this has more digits than a
     * register can have, whatever is done with it.
     */
    private static final int SCRATCH_LIMBS = 226;

    private static final int DRAFT_ROOM = 1100;
    private static final int BYTES_OF_LONG = 8;
    private static final int LONGEST_EXPONENT = 10;

    /** More than a sign, a 0, a point and a power of ten need beside the digits and the zeros. */
    private static final int TEXT_SPARE = 20;
    private static final int SHORT_TEXT = 1100;
    private static final int LONGEST_TEXT = MOST_DIGITS + FARTHEST_SCALE + TEXT_SPARE;

    private final Decimal[] registers;
    private final Draft draft;
    private final Text text;
    private final Divider divider;
    private final Rooter rooter;
    private final Rough rough;
    private final Natural other;
    private final Natural outcome;

    public DecimalDesk() {
        registers = new Decimal[REGISTERS];
        for (int i = 0; i < REGISTERS; i++) {
            registers[i] = new Decimal();
        }
        draft = new Draft();
        text = new Text();
        divider = new Divider();
        rooter = new Rooter(divider);
        rough = new Rough();
        other = new Natural(SCRATCH_LIMBS);
        outcome = new Natural(SCRATCH_LIMBS);
    }

    public int write(long characters) {
        return draft.append(characters);
    }

    public int wipe() {
        return draft.clear();
    }

    public void read(int to) throws IllegalArgumentException, IllegalStateException, ArithmeticException {
        demandRegister(to);
        if (!draft.isNumberText()) {
            throw new IllegalStateException("the draft is no number text");
        }
        demandScale(draft.saidScale());
        draft.fill(rough.number);
        rough.describe(draft.saysNegative(), (int) draft.saidScale());
        keep(to);
        draft.clear();
    }

    public void put(int to, long number, int scale) throws IllegalArgumentException, ArithmeticException {
        demandRegister(to);
        rough.number.become(number);
        rough.describe(number < 0, scale);
        keep(to);
    }

    public void add(int a, int b, int to, boolean less) throws IllegalArgumentException, ArithmeticException {
        demandRegisters(a, b, to);
        Decimal x = registers[a];
        Decimal y = registers[b];
        align(x, y);
        addSigned(y.negative != less);
        keep(to);
    }

    public void multiply(int a, int b, int to) throws IllegalArgumentException, ArithmeticException {
        demandRegisters(a, b, to);
        Decimal x = registers[a];
        Decimal y = registers[b];
        rough.number.becomeProduct(x.number, y.number);
        rough.describe(x.negative != y.negative, x.scale + y.scale);
        keep(to);
    }

    public void divide(int a, int b, int to, int scale, int mode) throws IllegalArgumentException, ArithmeticException {
        demandRegisters(a, b, to);
        demandMode(mode);
        demandWantedScale(scale);
        Decimal y = registers[b];
        demandDivisor(y);
        rough.take(registers[a]);
        divideRough(y, scale + 1 + y.scale);
        rough.dropGuard(mode);
        keep(to);
    }

    public void quotient(int a, int b, int to, int precision, int mode) throws IllegalArgumentException, ArithmeticException {
        demandRegisters(a, b, to);
        demandMode(mode);
        demandPrecision(precision, 0);
        Decimal x = registers[a];
        Decimal y = registers[b];
        demandDivisor(y);
        // At the wish the number is no longer than that of a, so all the digits that a register can
        // have never end before the wish, and exactly is: to so many digits, without rounding.
        boolean exactly = precision == 0;
        int digits = exactly ? MOST_DIGITS : precision;
        rough.take(x);
        // One digit more than asked for, or two, as the leading digits of a and b stand.
        divideRough(y, x.scale + digits + 1 - x.number.digits() + y.number.digits());
        rough.fitPrecision(digits, x.scale - y.scale, exactly ? NO_ROUNDING : mode);
        keep(to);
    }

    public void remainder(int a, int b, int to) throws IllegalArgumentException, ArithmeticException {
        demandRegisters(a, b, to);
        Decimal x = registers[a];
        Decimal y = registers[b];
        demandDivisor(y);
        rough.take(x);
        if (x.scale < y.scale) {
            reduceRaised(y.number, y.scale - x.scale);
            rough.scale = y.scale;
        } else if (y.number.digits() + x.scale - y.scale <= x.number.digits()) {
            other.copy(y.number);
            other.move(x.scale - y.scale);
            divider.split(rough.number, other, outcome);
        }
        keep(to);
    }

    public void power(int a, int n, int to) throws IllegalArgumentException, ArithmeticException {
        demandRegisters(a, to);
        if (n < 0 || n > HIGHEST_POWER) {
            throw new IllegalArgumentException("a power is 0 .. 999");
        }
        Decimal x = registers[a];
        rough.number.become(1L);
        for (int bit = POWER_BITS - 1; bit >= 0; bit--) {
            growRough(rough.number);
            if ((n >> bit & 1) != 0) {
                growRough(x.number);
            }
        }
        rough.describe(x.negative && n % 2 != 0, n * x.scale);
        keep(to);
    }

    public void root(int a, int to, int precision, int mode) throws IllegalArgumentException, ArithmeticException {
        demandRegisters(a, to);
        demandMode(mode);
        demandPrecision(precision, 1);
        Decimal x = registers[a];
        if (x.negative) {
            throw new ArithmeticException("a root of less than 0");
        }
        rough.take(x);
        if (!x.number.isZero()) {
            // The greatest scale with at most precision digits, and one more for the guard.
            int scale = Math.floorDiv(2 * precision - x.number.digits() + x.scale, 2) + 1;
            rough.cutTo(2 * scale);
            boolean exact = rooter.extract(rough.number, outcome);
            rough.number.copy(outcome);
            rough.lost = rough.lost || !exact;
            rough.scale = scale;
        }
        rough.fitPrecision(precision, Math.floorDiv(x.scale, 2), mode);
        keep(to);
    }

    public void toScale(int a, int to, int scale, int mode) throws IllegalArgumentException, ArithmeticException {
        demandRegisters(a, to);
        demandMode(mode);
        demandWantedScale(scale);
        rough.take(registers[a]);
        rough.cutTo(scale + 1);
        rough.dropGuard(mode);
        keep(to);
    }

    public void round(int a, int to, int precision, int mode) throws IllegalArgumentException, ArithmeticException {
        demandRegisters(a, to);
        demandMode(mode);
        demandPrecision(precision, 1);
        Decimal x = registers[a];
        rough.take(x);
        rough.fitPrecision(precision, x.scale, mode);
        keep(to);
    }

    public void strip(int a, int to) throws IllegalArgumentException, ArithmeticException {
        demandRegisters(a, to);
        rough.take(registers[a]);
        if (rough.number.isZero()) {
            rough.scale = 0;
        } else {
            rough.cutTo(rough.scale - rough.number.trailingZeros());
        }
        keep(to);
    }

    public void shift(int a, int to, int n) throws IllegalArgumentException, ArithmeticException {
        demandRegisters(a, to);
        long scale = (long) registers[a].scale - n;
        demandScale(scale);
        rough.take(registers[a]);
        rough.scale = (int) scale;
        keep(to);
    }

    public void negate(int a, int to) throws IllegalArgumentException {
        demandRegisters(a, to);
        rough.take(registers[a]);
        rough.negative = !rough.negative;
        keep(to);
    }

    public int compare(int a, int b) throws IllegalArgumentException {
        demandRegisters(a, b);
        Decimal x = registers[a];
        Decimal y = registers[b];
        if (x.sign() != y.sign() || x.sign() == 0) {
            return Integer.compare(x.sign(), y.sign());
        }
        return x.sign() * orderOfSizes(x, y);
    }

    public int told(int a, int what) throws IllegalArgumentException, IndexOutOfBoundsException {
        demandRegister(a);
        Decimal x = registers[a];
        int digits = x.number.digits();
        if (what < 0 || what - 3 >= digits) {
            throw new IndexOutOfBoundsException("there is no such digit");
        }
        switch (what) {
            case 0:
                return x.sign();
            case 1:
                return x.scale;
            case 2:
                return digits;
            default:
                return x.number.digitAt(digits - 1 - (what - 3));
        }
    }

    public int written(int a, int kind) throws IllegalArgumentException {
        demandRegister(a);
        if (kind < 0 || kind >= KINDS) {
            throw new IllegalArgumentException("a kind is 0 .. 2");
        }
        return text.spell(registers[a], kind);
    }

    public int character(int i) {
        return text.at(i);
    }

    private static void demandRegister(int register) {
        if (register < 0 || register >= REGISTERS) {
            throw new IllegalArgumentException("a register is 0 .. 9");
        }
    }

    private static void demandRegisters(int one, int another) {
        demandRegister(one);
        demandRegister(another);
    }

    private static void demandRegisters(int a, int b, int to) {
        demandRegisters(a, b);
        demandRegister(to);
    }

    private static void demandMode(int mode) {
        if (mode < 0 || mode >= MODES) {
            throw new IllegalArgumentException("a mode is 0 .. 7");
        }
    }

    private static void demandPrecision(int precision, int least) {
        if (precision < least || precision > MOST_DIGITS) {
            throw new IllegalArgumentException("no such precision");
        }
    }

    private static boolean isScale(long scale) {
        return scale >= -FARTHEST_SCALE && scale <= FARTHEST_SCALE;
    }

    private static void demandWantedScale(int scale) {
        if (!isScale(scale)) {
            throw new IllegalArgumentException("a scale is -10000 .. 10000");
        }
    }

    private static void demandScale(long scale) {
        if (!isScale(scale)) {
            throw new ArithmeticException("a scale that no register can have");
        }
    }

    private static void demandDigits(Natural number) {
        if (number.digits() > MOST_DIGITS) {
            throw new ArithmeticException("more digits than a register can have");
        }
    }

    private static void demandDivisor(Decimal divisor) {
        if (divisor.number.isZero()) {
            throw new ArithmeticException("divided by 0");
        }
    }

    /** All results come through here, and nothing but scratch changes before. */
    private void keep(int to) {
        demandScale(rough.scale);
        demandDigits(rough.number);
        registers[to].accept(rough);
    }

    /** At the greater one of their scales, where both numbers stand for the same unit. */
    private void align(Decimal x, Decimal y) {
        int scale = Math.max(x.scale, y.scale);
        rough.take(x);
        rough.cutTo(scale);
        other.copy(y.number);
        other.move(scale - y.scale);
    }

    private void addSigned(boolean otherNegative) {
        Natural sum = rough.number;
        if (rough.negative == otherNegative) {
            sum.raiseBy(other);
        } else if (sum.order(other) >= 0) {
            sum.lowerBy(other);
        } else {
            other.lowerBy(sum);
            sum.copy(other);
            rough.negative = otherNegative;
        }
    }

    /** Cutting the dividend first loses nothing that the quotient, itself cut, would have shown. */
    private void divideRough(Decimal y, int dividendScale) {
        rough.cutTo(dividendScale);
        divider.split(rough.number, y.number, outcome);
        rough.lost = rough.lost || !rough.number.isZero();
        rough.number.copy(outcome);
        rough.negative = rough.negative != y.negative;
        rough.scale = dividendScale - y.scale;
    }

    /** The dividend may be of 21000 digits: it is raised by parts, each reduced before the next. */
    private void reduceRaised(Natural divisor, int places) {
        for (int left = places; left > 0; left -= MOST_DIGITS) {
            rough.number.move(Math.min(left, MOST_DIGITS));
            divider.split(rough.number, divisor, outcome);
        }
    }

    /** No factor makes a number shorter but 0, so one that is too long already stays too long. */
    private void growRough(Natural factor) {
        outcome.becomeProduct(rough.number, factor);
        demandDigits(outcome);
        rough.number.copy(outcome);
    }

    /** For numbers other than 0. */
    private int orderOfSizes(Decimal x, Decimal y) {
        int lead = x.number.digits() - x.scale;
        int otherLead = y.number.digits() - y.scale;
        if (lead != otherLead) {
            return Integer.compare(lead, otherLead);
        }
        // With the same lead the scales differ as the digits do, by less than 1000.
        align(x, y);
        return rough.number.order(other);
    }

    /** An integer without a sign, in limbs of nine digits, the lowest first, none of them 0 on top. */
    private static final class Natural {
        final int[] limbs;
        int size;

        Natural(int room) {
            limbs = new int[room];
        }

        boolean isZero() {
            return size == 0;
        }

        int digits() {
            if (size == 0) {
                return 1;
            }
            int count = 1;
            while (count < LIMB_DIGITS && limbs[size - 1] >= TENS[count]) {
                count++;
            }
            return (size - 1) * LIMB_DIGITS + count;
        }

        /** Places count from the lowest digit on. */
        int digitAt(int place) {
            if (place < 0 || place / LIMB_DIGITS >= size) {
                return 0;
            }
            return limbs[place / LIMB_DIGITS] / TENS[place % LIMB_DIGITS] % 10;
        }

        int trailingZeros() {
            int limb = 0;
            while (limb < size && limbs[limb] == 0) {
                limb++;
            }
            if (limb == size) {
                return 0;
            }
            int place = 0;
            while (place < LIMB_DIGITS - 1 && limbs[limb] % TENS[place + 1] == 0) {
                place++;
            }
            return limb * LIMB_DIGITS + place;
        }

        int order(Natural that) {
            if (size != that.size) {
                return Integer.compare(size, that.size);
            }
            int at = size - 1;
            while (at > 0 && limbs[at] == that.limbs[at]) {
                at--;
            }
            return at < 0 ? 0 : Integer.compare(limbs[at], that.limbs[at]);
        }

        /** The one place where a number gets longer, so that no limb is ever out of the room. */
        void claim(int wanted) {
            if (wanted > limbs.length) {
                throw new ArithmeticException("more digits than a register can have");
            }
            size = wanted;
        }

        void trim() {
            while (size > 0 && limbs[size - 1] == 0) {
                size--;
            }
        }

        void copy(Natural from) {
            claim(from.size);
            System.arraycopy(from.limbs, 0, limbs, 0, size);
        }

        void become(long number) {
            // Below 0 there is room for the size of each long, above 0 not for that of the least.
            long left = number > 0 ? -number : number;
            claim(3);
            for (int i = 0; i < 3; i++) {
                limbs[i] = (int) -(left % BASE);
                left /= BASE;
            }
            trim();
        }

        /** As many zeros, for setDigit, and trim behind it. */
        void openDigits(int count) {
            claim((count + LIMB_DIGITS - 1) / LIMB_DIGITS);
            for (int i = 0; i < size; i++) {
                limbs[i] = 0;
            }
        }

        void setDigit(int place, int digit) {
            if (place >= 0 && place / LIMB_DIGITS < size) {
                limbs[place / LIMB_DIGITS] += digit * TENS[place % LIMB_DIGITS];
            }
        }

        void becomeProduct(Natural a, Natural b) {
            claim(a.size + b.size);
            for (int i = 0; i < size; i++) {
                limbs[i] = 0;
            }
            for (int i = 0; i < a.size; i++) {
                long factor = a.limbs[i];
                long carry = 0;
                for (int j = 0; j < b.size; j++) {
                    long part = factor * b.limbs[j] + limbs[i + j] + carry;
                    carry = part / BASE;
                    limbs[i + j] = (int) (part - carry * BASE);
                }
                limbs[i + b.size] = (int) carry;
            }
            trim();
        }

        /** Times 10 to the places, cut to an integer; answers whether that lost anything. */
        boolean move(int places) {
            if (places == 0 || size == 0) {
                return false;
            }
            if (places < 0) {
                return moveDown(-places);
            }
            moveUp(places);
            return false;
        }

        private void moveUp(int places) {
            int whole = places / LIMB_DIGITS;
            int low = TENS[places % LIMB_DIGITS];
            int high = BASE / low;
            int before = size;
            claim((digits() + places + LIMB_DIGITS - 1) / LIMB_DIGITS);
            for (int i = size - 1; i >= whole; i--) {
                int here = i - whole < before ? limbs[i - whole] : 0;
                int below = i > whole ? limbs[i - whole - 1] : 0;
                limbs[i] = here % high * low + below / high;
            }
            for (int i = 0; i < whole; i++) {
                limbs[i] = 0;
            }
        }

        private boolean moveDown(int places) {
            int whole = places / LIMB_DIGITS;
            if (whole >= size) {
                size = 0;
                return true;
            }
            int low = TENS[places % LIMB_DIGITS];
            int high = BASE / low;
            boolean lost = limbs[whole] % low != 0;
            for (int i = 0; i < whole && !lost; i++) {
                lost = limbs[i] != 0;
            }
            for (int i = whole; i < size; i++) {
                int above = i + 1 < size ? limbs[i + 1] : 0;
                limbs[i - whole] = limbs[i] / low + above % low * high;
            }
            size -= whole;
            trim();
            return lost;
        }

        void raiseBy(Natural that) {
            int longer = Math.max(size, that.size);
            int before = size;
            claim(longer + 1);
            int carry = 0;
            for (int i = 0; i < longer; i++) {
                int part = carry + (i < before ? limbs[i] : 0) - BASE + (i < that.size ? that.limbs[i] : 0);
                carry = part >= 0 ? 1 : 0;
                limbs[i] = part >= 0 ? part : part + BASE;
            }
            limbs[longer] = carry;
            trim();
        }

        /** By a number that is not greater. */
        void lowerBy(Natural that) {
            int borrow = 0;
            for (int i = 0; i < size; i++) {
                int part = limbs[i] - borrow - (i < that.size ? that.limbs[i] : 0);
                borrow = part < 0 ? 1 : 0;
                limbs[i] = part < 0 ? part + BASE : part;
            }
            trim();
        }

        void increment() {
            int at = 0;
            while (at < size && limbs[at] == BASE - 1) {
                limbs[at] = 0;
                at++;
            }
            if (at < size) {
                limbs[at]++;
            } else {
                claim(size + 1);
                limbs[at] = 1;
            }
        }

        void timesSmall(int factor) {
            long carry = 0;
            for (int i = 0; i < size; i++) {
                long part = (long) limbs[i] * factor + carry;
                carry = part / BASE;
                limbs[i] = (int) (part - carry * BASE);
            }
            if (carry > 0) {
                claim(size + 1);
                limbs[size - 1] = (int) carry;
            }
        }

        void overSmall(int divisor) {
            if (divisor <= 1) {
                return;
            }
            long rest = 0;
            for (int i = size - 1; i >= 0; i--) {
                long part = rest * BASE + limbs[i];
                limbs[i] = (int) (part / divisor);
                rest = part % divisor;
            }
            trim();
        }
    }

    /** Long division, limb by limb (Knuth's algorithm D). */
    private static final class Divider {
        private final Natural divisor = new Natural(SCRATCH_LIMBS);

        /** The quotient's integer part; of the dividend, that which is left over stays. */
        void split(Natural rest, Natural by, Natural result) {
            if (by.size == 0) {
                throw new ArithmeticException("divided by 0");
            }
            result.claim(0);
            if (rest.size < by.size) {
                return;
            }
            // A top limb of at least half the base keeps each guess within two of the limb sought.
            int factor = BASE / (by.limbs[by.size - 1] + 1);
            divisor.copy(by);
            divisor.timesSmall(factor);
            int length = rest.size;
            rest.timesSmall(factor);
            if (rest.size == length) {
                rest.claim(length + 1);
                rest.limbs[length] = 0;
            }
            result.claim(length - divisor.size + 1);
            for (int at = length - divisor.size; at >= 0; at--) {
                result.limbs[at] = takeLimb(rest.limbs, at);
            }
            result.trim();
            rest.trim();
            rest.overSmall(factor);
        }

        private int takeLimb(int[] rest, int at) {
            int top = at + divisor.size;
            long guess = guessLimb(rest, top);
            if (guess > 0 && subtractTimes(rest, at, guess)) {
                giveBack(rest, at);
                guess--;
            }
            return (int) guess;
        }

        private long guessLimb(int[] rest, int top) {
            int length = divisor.size;
            long first = length > 0 ? divisor.limbs[length - 1] : 0;
            if (first <= 0) {
                // Never so, as no number has a 0 on top: but a divisor is looked at before it divides.
                return 0;
            }
            long second = length > 1 ? divisor.limbs[length - 2] : 0;
            long third = length > 1 ? rest[top - 2] : 0;
            long head = (long) rest[top] * BASE + rest[top - 1];
            long guess = head / first;
            long left = head - guess * first;
            for (int i = 0; i < 2 && left < BASE; i++) {
                if (guess < BASE && guess * second <= left * BASE + third) {
                    break;
                }
                guess--;
                left += first;
            }
            return guess;
        }

        /** Answers whether that took too much. */
        private boolean subtractTimes(int[] rest, int at, long times) {
            int[] limbs = divisor.limbs;
            int length = divisor.size;
            long carry = 0;
            for (int i = 0; i < length; i++) {
                long part = times * limbs[i] + carry;
                carry = part / BASE;
                int left = rest[at + i] - (int) (part - carry * BASE);
                if (left < 0) {
                    left += BASE;
                    carry++;
                }
                rest[at + i] = left;
            }
            boolean tooMuch = rest[at + length] < carry;
            // What stays is below the divisor, if need be when that has been given back.
            rest[at + length] = 0;
            return tooMuch;
        }

        private void giveBack(int[] rest, int at) {
            int carry = 0;
            for (int i = 0; i < divisor.size; i++) {
                int part = rest[at + i] - BASE + divisor.limbs[i] + carry;
                carry = part >= 0 ? 1 : 0;
                rest[at + i] = part >= 0 ? part : part + BASE;
            }
        }
    }

    /** Newton's root, first of the top limbs, then of more and more of them. */
    private static final class Rooter {
        private final Divider divider;
        private final Natural head = new Natural(SCRATCH_LIMBS);
        private final Natural rest = new Natural(SCRATCH_LIMBS);
        private final Natural ratio = new Natural(SCRATCH_LIMBS);

        Rooter(Divider divider) {
            this.divider = divider;
        }

        /** The integer part of a root, the square being above 0; answers whether there is no other part. */
        boolean extract(Natural square, Natural found) {
            int wanted = (square.size + 1) / 2;
            boolean exact = false;
            found.claim(0);
            int known = 0;
            for (int level = 0; level < SCRATCH_LIMBS && known < wanted; level++) {
                // A step doubles the right digits, but the top limb may be one small digit alone.
                int next = Math.min(wanted, Math.max(known + 1, 2 * known - 1));
                head.copy(square);
                head.move(-2 * LIMB_DIGITS * (wanted - next));
                found.increment();
                found.move(LIMB_DIGITS * (next - known));
                exact = descend(found);
                known = next;
            }
            return exact;
        }

        /** From a start above the root each step falls until the root's integer part is reached. */
        private boolean descend(Natural found) {
            for (int step = 0; step < 1000; step++) {
                rest.copy(head);
                divider.split(rest, found, ratio);
                int order = ratio.order(found);
                if (order >= 0) {
                    return order == 0 && rest.isZero();
                }
                found.raiseBy(ratio);
                found.overSmall(2);
            }
            return false;
        }
    }

    /** What a register has. */
    private static final class Decimal {
        final Natural number = new Natural(REGISTER_LIMBS);
        boolean negative;
        int scale;

        int sign() {
            if (number.isZero()) {
                return 0;
            }
            return negative ? -1 : 1;
        }

        void accept(Rough rough) {
            number.copy(rough.number);
            negative = rough.negative && !number.isZero();
            scale = rough.scale;
        }
    }

    /** A result in the making: cut to some scale, with the note whether the true value goes on. */
    private static final class Rough {
        final Natural number = new Natural(SCRATCH_LIMBS);
        boolean negative;
        int scale;
        boolean lost;

        void describe(boolean isNegative, int itsScale) {
            negative = isNegative;
            scale = itsScale;
            lost = false;
        }

        void take(Decimal from) {
            number.copy(from.number);
            describe(from.negative, from.scale);
        }

        void cutTo(int wanted) {
            boolean more = number.move(wanted - scale);
            lost = lost || more;
            scale = wanted;
        }

        /** The lowest digit, and what was lost behind it, decide how the others are rounded. */
        void dropGuard(int mode) {
            int guard = number.digitAt(0);
            boolean beyond = lost;
            cutTo(scale - 1);
            if (!lost) {
                return;
            }
            if (mode == NO_ROUNDING) {
                throw new ArithmeticException("rounding would be needed");
            }
            if (goesOutwards(mode, guard, beyond)) {
                number.increment();
            }
        }

        private boolean goesOutwards(int mode, int guard, boolean beyond) {
            switch (mode) {
                case UP:
                    return true;
                case CEILING:
                    return !negative;
                case FLOOR:
                    return negative;
                case HALF_UP:
                    return guard >= 5;
                case HALF_DOWN:
                    return guard > 5 || guard == 5 && beyond;
                case HALF_EVEN:
                    return guard > 5 || guard == 5 && (beyond || number.digitAt(0) % 2 != 0);
                default:
                    return false;
            }
        }

        void fitPrecision(int precision, int wish, int mode) {
            if (number.isZero() && !lost) {
                scale = wish;
                return;
            }
            cutTo(scale + precision + 1 - number.digits());
            boolean exact = !lost && number.digitAt(0) == 0;
            dropGuard(mode);
            if (exact) {
                int spare = Math.max(0, scale - wish);
                cutTo(scale - Math.min(spare, number.trailingZeros()));
            } else if (number.digits() > precision) {
                cutTo(scale - 1);
            }
        }
    }

    /** The characters that are yet to be read, and what they say. */
    private static final class Draft {
        private final char[] chars = new char[DRAFT_ROOM];
        private int count;
        private boolean negative;
        private int firstDigit;
        private int endOfDigits;
        private int digits;
        private int digitsBehindPoint;
        private long exponent;

        int append(long bytes) {
            int more = 0;
            for (int i = 0; i < BYTES_OF_LONG; i++) {
                more += byteAt(bytes, i) != 0 ? 1 : 0;
            }
            if (count + more > DRAFT_ROOM) {
                return NONE;
            }
            for (int i = 0; i < BYTES_OF_LONG; i++) {
                char next = byteAt(bytes, i);
                if (next != 0) {
                    chars[count] = next;
                    count++;
                }
            }
            return count;
        }

        private static char byteAt(long bytes, int i) {
            return (char) (bytes >>> 8 * i & 255);
        }

        int clear() {
            int before = count;
            count = 0;
            return before;
        }

        /** With true, what the text says is known until the next call. */
        boolean isNumberText() {
            firstDigit = behindSign(0);
            negative = firstDigit > 0 && chars[0] == '-';
            scanDigits();
            exponent = 0;
            if (digits == 0) {
                return false;
            }
            return endOfDigits == count || scanExponent();
        }

        private int behindSign(int at) {
            return at < count && (chars[at] == '+' || chars[at] == '-') ? at + 1 : at;
        }

        private static boolean isDigit(char c) {
            return c >= '0' && c <= '9';
        }

        private void scanDigits() {
            boolean pointed = false;
            digits = 0;
            digitsBehindPoint = 0;
            int at = firstDigit;
            while (at < count && (isDigit(chars[at]) || chars[at] == '.' && !pointed)) {
                if (chars[at] == '.') {
                    pointed = true;
                } else {
                    digits++;
                    digitsBehindPoint += pointed ? 1 : 0;
                }
                at++;
            }
            endOfDigits = at;
        }

        private boolean scanExponent() {
            int start = endOfDigits + 1;
            if (chars[endOfDigits] != 'e' && chars[endOfDigits] != 'E') {
                return false;
            }
            int first = behindSign(start);
            if (first >= count || count - first > LONGEST_EXPONENT) {
                return false;
            }
            long size = 0;
            for (int at = first; at < count; at++) {
                if (!isDigit(chars[at])) {
                    return false;
                }
                size = size * 10 + (chars[at] - '0');
            }
            exponent = first > start && chars[start] == '-' ? -size : size;
            return true;
        }

        boolean saysNegative() {
            return negative;
        }

        long saidScale() {
            return digitsBehindPoint - exponent;
        }

        void fill(Natural number) {
            number.openDigits(digits);
            int place = 0;
            for (int at = endOfDigits - 1; at >= firstDigit; at--) {
                if (chars[at] != '.') {
                    number.setDigit(place, chars[at] - '0');
                    place++;
                }
            }
            number.trim();
        }
    }

    /** The text that was written last. */
    private static final class Text {
        private char[] chars = new char[SHORT_TEXT];
        private int length;

        int at(int i) {
            return i < 0 || i >= length ? NONE : chars[i];
        }

        int spell(Decimal x, int kind) {
            int digits = x.number.digits();
            int lead = digits - 1 - x.scale;
            restart(digits + Math.abs(x.scale));
            if (x.negative) {
                append('-');
            }
            if (kind == PLAIN && x.scale <= 0) {
                spellInteger(x);
            } else if (kind == PLAIN || x.scale == 0 || x.scale > 0 && lead >= -6) {
                spellPointed(x.number, digits - x.scale);
            } else if (kind == WITH_POWERS_OF_TEN) {
                spellPointed(x.number, 1);
                appendPower(lead);
            } else if (x.number.isZero()) {
                int zeros = Math.floorMod(-lead, 3);
                spellZero(zeros);
                appendPower(lead + zeros);
            } else {
                int more = Math.floorMod(lead, 3);
                spellPointed(x.number, more + 1);
                appendPower(lead - more);
            }
            return length;
        }

        /** Most texts are short: the long row is made when the first long one comes, and once. */
        private void restart(int digitsAndZeros) {
            length = 0;
            if (digitsAndZeros + TEXT_SPARE > chars.length) {
                chars = new char[LONGEST_TEXT];
            }
        }

        private void append(char c) {
            if (length < chars.length) {
                chars[length] = c;
                length++;
            }
        }

        private void appendZeros(int count) {
            for (int i = 0; i < count; i++) {
                append('0');
            }
        }

        /** Places count from the highest digit on. */
        private void appendDigits(Natural number, int from, int to) {
            int last = number.digits() - 1;
            for (int i = from; i < to; i++) {
                append((char) ('0' + number.digitAt(last - i)));
            }
        }

        private void appendPower(int power) {
            if (power == 0) {
                return;
            }
            append('E');
            append(power < 0 ? '-' : '+');
            int size = Math.abs(power);
            int place = LIMB_DIGITS;
            while (place > 0 && size < TENS[place]) {
                place--;
            }
            for (int i = place; i >= 0; i--) {
                append((char) ('0' + size / TENS[i] % 10));
            }
        }

        private void spellInteger(Decimal x) {
            appendDigits(x.number, 0, x.number.digits());
            if (!x.number.isZero()) {
                appendZeros(-x.scale);
            }
        }

        /** With as many digits before the point, or so many zeros behind it as that is below 0. */
        private void spellPointed(Natural number, int before) {
            int digits = number.digits();
            if (before <= 0) {
                append('0');
                append('.');
                appendZeros(-before);
                appendDigits(number, 0, digits);
                return;
            }
            appendDigits(number, 0, Math.min(before, digits));
            appendZeros(before - digits);
            if (before < digits) {
                append('.');
                appendDigits(number, before, digits);
            }
        }

        private void spellZero(int zeros) {
            append('0');
            if (zeros > 0) {
                append('.');
                appendZeros(zeros);
            }
        }
    }
}
