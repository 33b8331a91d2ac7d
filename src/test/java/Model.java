import java.math.BigInteger;

/**
 * The document's words over fractions of BigIntegers, as plainly as they stand there: an oracle that
 * shares no idea with the class. Results are number and scale; an exception is the answer null.
 */
final class Model {
    static final BigInteger ZERO = BigInteger.ZERO;
    static final BigInteger ONE = BigInteger.ONE;
    static final BigInteger TWO = BigInteger.TWO;

    private Model() {
    }

    /** A number and a scale. */
    static final class Dec {
        final BigInteger number;
        final long scale;

        Dec(BigInteger number, long scale) {
            this.number = number;
            this.scale = scale;
        }

        int precision() {
            return number.abs().toString().length();
        }

        @Override
        public String toString() {
            return number + "s" + scale;
        }
    }

    /** Thrown where the document wants an ArithmeticException. */
    static final class Refusal extends Exception {
        private static final long serialVersionUID = 1L;
    }

    /** A real number: a fraction, or the root of one that is not below 0. */
    static final class Real {
        final BigInteger over;
        final BigInteger under;
        final boolean rooted;

        Real(BigInteger over, BigInteger under, boolean rooted) {
            this.over = under.signum() < 0 ? over.negate() : over;
            this.under = under.abs();
            this.rooted = rooted;
        }

        static Real of(Dec x) {
            return new Real(x.number, ONE, false).timesTen(-x.scale);
        }

        Real timesTen(long power) {
            BigInteger factor = BigInteger.TEN.pow((int) Math.abs(rooted ? 2 * power : power));
            return power >= 0 ? new Real(over.multiply(factor), under, rooted)
                    : new Real(over, under.multiply(factor), rooted);
        }

        /** The sign of this less half of twice (this is not below 0 when it is rooted). */
        int compareToHalves(BigInteger twice) {
            if (rooted) {
                return over.multiply(BigInteger.valueOf(4)).compareTo(twice.multiply(twice).multiply(under));
            }
            return over.multiply(TWO).compareTo(twice.multiply(under));
        }

        BigInteger floor() {
            if (rooted) {
                return over.divide(under).sqrt();
            }
            BigInteger[] parts = over.divideAndRemainder(under);
            return parts[1].signum() < 0 ? parts[0].subtract(ONE) : parts[0];
        }

        boolean isInteger() {
            return compareToHalves(floor().multiply(TWO)) == 0;
        }

        boolean sizeBelowTen(int power) {
            BigInteger limit = BigInteger.TEN.pow(rooted ? 2 * power : power);
            return over.abs().compareTo(limit.multiply(under)) < 0;
        }
    }

    static BigInteger rounded(Real x, int mode) throws Refusal {
        BigInteger floor = x.floor();
        if (x.isInteger()) {
            return floor;
        }
        BigInteger ceiling = floor.add(ONE);
        boolean below = x.over.signum() < 0;
        BigInteger inner = below ? ceiling : floor;
        BigInteger outer = below ? floor : ceiling;
        int half = x.compareToHalves(floor.add(ceiling));
        BigInteger nearest = half < 0 ? floor : ceiling;
        switch (mode) {
            case 0: return outer;
            case 1: return inner;
            case 2: return ceiling;
            case 3: return floor;
            case 4: return half != 0 ? nearest : outer;
            case 5: return half != 0 ? nearest : inner;
            case 6: return half != 0 ? nearest : floor.testBit(0) ? ceiling : floor;
            default: throw new Refusal();
        }
    }

    static Dec toScale(Real x, long scale, int mode) throws Refusal {
        return new Dec(rounded(x.timesTen(scale), mode), scale);
    }

    /** The greatest t for which x times ten to the t is below ten to the p: from a guess by lengths. */
    private static long greatest(Real x, int p) {
        long t = p - (x.over.abs().toString().length() - x.under.toString().length()) / (x.rooted ? 2 : 1) + 3;
        while (!x.timesTen(t).sizeBelowTen(p)) {
            t--;
        }
        return t;
    }

    static Dec toPrecision(Real x, int p, long wish, int mode) throws Refusal {
        if (x.over.signum() == 0) {
            return new Dec(ZERO, wish);
        }
        long t = greatest(x, p);
        Real raised = x.timesTen(t);
        if (raised.isInteger()) {
            // All the decimals of this value with p digits at most: the one at t, and shorter ones.
            BigInteger number = raised.floor();
            long scale = t;
            while (scale > wish && number.mod(BigInteger.TEN).signum() == 0) {
                number = number.divide(BigInteger.TEN);
                scale--;
            }
            return new Dec(number, scale);
        }
        Dec cut = toScale(x, t, mode);
        return cut.precision() == p ? cut : new Dec(cut.number.divide(BigInteger.TEN), t - 1);
    }

    /** The decimal of just this value with the least scale, or none. */
    static Dec least(Real x) throws Refusal {
        if (x.over.signum() == 0) {
            throw new IllegalArgumentException("0 has no least scale");
        }
        BigInteger gcd = x.over.gcd(x.under);
        BigInteger under = x.under.divide(gcd);
        long scale = 0;
        BigInteger left = under;
        while (left.gcd(BigInteger.TEN).compareTo(ONE) > 0) {
            left = left.divide(left.gcd(BigInteger.TEN));
            scale++;
        }
        if (!left.equals(ONE)) {
            throw new Refusal();
        }
        BigInteger number = x.over.divide(gcd).multiply(BigInteger.TEN.pow((int) scale)).divide(under);
        while (number.mod(BigInteger.TEN).signum() == 0) {
            number = number.divide(BigInteger.TEN);
            scale--;
        }
        return new Dec(number, scale);
    }

    static Dec at(Dec x, long scale) {
        return new Dec(x.number.multiply(BigInteger.TEN.pow((int) (scale - x.scale))), scale);
    }

    static Real ratio(Dec a, Dec b) throws Refusal {
        if (b.number.signum() == 0) {
            throw new Refusal();
        }
        return new Real(a.number, b.number, false).timesTen(b.scale - a.scale);
    }

    static Dec add(Dec a, Dec b, boolean less) {
        long scale = Math.max(a.scale, b.scale);
        BigInteger x = at(a, scale).number;
        BigInteger y = at(b, scale).number;
        return new Dec(less ? x.subtract(y) : x.add(y), scale);
    }

    static Dec quotient(Dec a, Dec b, int precision, int mode) throws Refusal {
        Real x = ratio(a, b);
        long wish = a.scale - b.scale;
        if (precision > 0) {
            return toPrecision(x, precision, wish, mode);
        }
        if (x.over.signum() == 0) {
            return new Dec(ZERO, wish);
        }
        Dec least = least(x);
        return least.scale >= wish ? least : at(least, wish);
    }

    static Dec remainder(Dec a, Dec b) throws Refusal {
        if (b.number.signum() == 0) {
            throw new Refusal();
        }
        long scale = Math.max(a.scale, b.scale);
        return new Dec(at(a, scale).number.remainder(at(b, scale).number), scale);
    }

    static Dec power(Dec a, int n) {
        return n == 0 ? new Dec(ONE, 0) : new Dec(a.number.pow(n), n * a.scale);
    }

    static Dec root(Dec a, int precision, int mode) throws Refusal {
        if (a.number.signum() < 0) {
            throw new Refusal();
        }
        Real square = Real.of(a);
        return toPrecision(new Real(square.over, square.under, true), precision, Math.floorDiv(a.scale, 2), mode);
    }

    static Dec strip(Dec a) throws Refusal {
        return a.number.signum() == 0 ? new Dec(ZERO, 0) : least(Real.of(a));
    }

    static int compare(Dec a, Dec b) {
        long scale = Math.max(a.scale, b.scale);
        return at(a, scale).number.compareTo(at(b, scale).number);
    }

    static Dec kept(Dec x) throws Refusal {
        if (x.precision() > 1000 || Math.abs(x.scale) > 10000) {
            throw new Refusal();
        }
        return x;
    }

    static String written(Dec x, int kind) {
        String digits = x.number.abs().toString();
        String sign = x.number.signum() < 0 ? "-" : "";
        int d = digits.length();
        int s = (int) x.scale;
        int a = d - 1 - s;
        if (kind == 1 && s <= 0) {
            return sign + digits + (x.number.signum() == 0 ? "" : "0".repeat(-s));
        }
        if (s == 0) {
            return sign + digits;
        }
        if (kind == 1 || s > 0 && a >= -6) {
            String padded = "0".repeat(Math.max(0, s + 1 - d)) + digits;
            return sign + padded.substring(0, padded.length() - s) + "." + padded.substring(padded.length() - s);
        }
        if (kind == 0) {
            return sign + digits.charAt(0) + (d > 1 ? "." + digits.substring(1) : "") + exponent(a);
        }
        if (x.number.signum() == 0) {
            int b = a;
            while (b % 3 != 0) {
                b++;
            }
            return "0" + (b > a ? "." + "0".repeat(b - a) : "") + exponent(b);
        }
        int b = a;
        while (b % 3 != 0) {
            b--;
        }
        int before = a - b + 1;
        String padded = digits + "0".repeat(Math.max(0, before - d));
        String rest = padded.substring(before);
        return sign + padded.substring(0, before) + (rest.isEmpty() ? "" : "." + rest) + exponent(b);
    }

    private static String exponent(int b) {
        return b == 0 ? "" : "E" + (b > 0 ? "+" : "") + b;
    }
}
