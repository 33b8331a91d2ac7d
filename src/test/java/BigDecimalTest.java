import java.math.BigDecimal;
import java.math.BigInteger;
import java.math.MathContext;
import java.math.RoundingMode;
import java.util.Random;

/**
 * Random calls against java.math.BigDecimal, which nobody wrote from the document: a second oracle,
 * that does not read the document's words as the model does. Its root has other scales, so that alone
 * is brought to the document's.
 */
public final class BigDecimalTest {
    private static final int RUNS = 2500;

    /** In the order of the modes. */
    private static final RoundingMode[] MODES = {
        RoundingMode.UP, RoundingMode.DOWN, RoundingMode.CEILING, RoundingMode.FLOOR,
        RoundingMode.HALF_UP, RoundingMode.HALF_DOWN, RoundingMode.HALF_EVEN, RoundingMode.UNNECESSARY,
    };

    private final Random random;
    private final Check check;

    private BigDecimalTest(Random random, Check check) {
        this.random = random;
        this.check = check;
    }

    public static void main(String[] args) {
        Check check = new Check();
        long seed = args.length > 0 ? Long.parseLong(args[0]) : 1;
        int runs = args.length > 1 ? Integer.parseInt(args[1]) : RUNS;
        BigDecimalTest test = new BigDecimalTest(new Random(seed), check);
        for (int i = 0; i < runs; i++) {
            test.step();
        }
        check.finish();
    }

    private interface Answer {
        BigDecimal given();
    }

    private static String told(BigDecimal x) {
        return x.unscaledValue() + "s" + x.scale();
    }

    private static String text(BigDecimal x) {
        return Check.numberText(told(x));
    }

    /** What is due, or null for an ArithmeticException. */
    private static BigDecimal kept(Answer answer) {
        try {
            BigDecimal x = answer.given();
            return x.precision() > 1000 || Math.abs((long) x.scale()) > 10000 ? null : x;
        } catch (ArithmeticException e) {
            return null;
        }
    }

    private void both(String what, BigDecimal x, BigDecimal y, Check.Call call, Answer answer) {
        BigDecimal want = kept(answer);
        DecimalDesk desk = Check.desk(text(x), text(y));
        String named = what + Check.of(text(x), text(y));
        check.due(named, Check.thrown(() -> call.on(desk)), want == null ? "ArithmeticException" : "");
        if (want != null) {
            check.holds(named, desk, Check.TO, told(want));
        }
    }

    private BigDecimal number() {
        int[] most = {3, 20, 100, 1000};
        int length = 1 + random.nextInt(most[random.nextInt(4)]);
        StringBuilder digits = new StringBuilder();
        String[] shapes = {"0123456789", "09", "0", "1234500"};
        String shape = shapes[random.nextInt(4)];
        digits.append(1 + random.nextInt(9));
        while (digits.length() < length) {
            digits.append(shape.charAt(random.nextInt(shape.length())));
        }
        BigInteger number = random.nextInt(12) == 0 ? BigInteger.ZERO : new BigInteger(digits.toString());
        return new BigDecimal(random.nextBoolean() ? number : number.negate(), scale());
    }

    private int scale() {
        int[] farthest = {0, 4, 20, 1000, 10000};
        int most = farthest[random.nextInt(5)];
        return random.nextInt(2 * most + 1) - most;
    }

    private void step() {
        BigDecimal x = number();
        BigDecimal y = random.nextInt(8) == 0 ? x : number();
        switch (random.nextInt(4)) {
            case 0: exactly(x, y); break;
            case 1: divided(x, y, random.nextInt(8)); break;
            case 2: rounded(x, random.nextInt(8)); break;
            default: seen(x, y);
        }
    }

    private void exactly(BigDecimal x, BigDecimal y) {
        // A power of over 20000 digits is refused, as shorter ones are, and takes BigDecimal long.
        int n = Math.min(random.nextInt(random.nextInt(3) == 0 ? 1000 : 6), 20000 / x.precision());
        int places = scale();
        both("add", x, y, d -> d.add(0, 1, Check.TO, false), () -> x.add(y));
        both("less", x, y, d -> d.add(0, 1, Check.TO, true), () -> x.subtract(y));
        both("multiply", x, y, d -> d.multiply(0, 1, Check.TO), () -> x.multiply(y));
        both("strip", x, y, d -> d.strip(0, Check.TO), () -> x.stripTrailingZeros());
        both("shift by " + places, x, y, d -> d.shift(0, Check.TO, places), () -> x.scaleByPowerOfTen(places));
        both("negate", x, y, d -> d.negate(0, Check.TO), () -> x.negate());
        both("power " + n, x, y, d -> d.power(0, n, Check.TO), () -> x.pow(n));
    }

    private int precision() {
        return 1 + random.nextInt(random.nextInt(3) == 0 ? 1000 : 12);
    }

    private void divided(BigDecimal x, BigDecimal y, int mode) {
        int precision = precision();
        int scale = scale();
        String by = " to " + precision + ", " + scale + " by " + mode;
        both("divide" + by, x, y, d -> d.divide(0, 1, Check.TO, scale, mode), () -> x.divide(y, scale, MODES[mode]));
        both("quotient" + by, x, y, d -> d.quotient(0, 1, Check.TO, precision, mode),
                () -> x.divide(y, new MathContext(precision, MODES[mode])));
        both("exact quotient", x, y, d -> d.quotient(0, 1, Check.TO, 0, mode), () -> x.divide(y));
        both("remainder", x, y, d -> d.remainder(0, 1, Check.TO),
                () -> x.remainder(y).setScale(Math.max(x.scale(), y.scale())));
    }

    private void rounded(BigDecimal x, int mode) {
        int precision = precision();
        int scale = random.nextBoolean() ? scale() : Math.max(-10000, x.scale() - random.nextInt(x.precision() + 1));
        int few = Math.min(precision, 40);
        String by = " to " + precision + ", " + scale + " by " + mode;
        both("round" + by, x, x, d -> d.round(0, Check.TO, precision, mode),
                () -> x.round(new MathContext(precision, MODES[mode])));
        both("toScale" + by, x, x, d -> d.toScale(0, Check.TO, scale, mode), () -> x.setScale(scale, MODES[mode]));
        // A BigDecimal's root takes long when it is long itself.
        if (x.precision() <= 100 && Math.abs(x.scale()) <= 1000) {
            both("root" + by, x, x, d -> d.root(0, Check.TO, few, mode), () -> root(x, few, mode));
        }
    }

    private static BigDecimal root(BigDecimal x, int precision, int mode) {
        BigDecimal root = x.sqrt(new MathContext(precision, MODES[mode]));
        int wish = Math.floorDiv(x.scale(), 2);
        if (root.signum() == 0) {
            return root.setScale(wish);
        }
        boolean exact = root.multiply(root).compareTo(x) == 0;
        BigDecimal found = root.setScale(root.scale() + precision - root.precision());
        int least = root.stripTrailingZeros().scale();
        return exact ? found.setScale(Math.min(found.scale(), Math.max(wish, least))) : found;
    }

    private void seen(BigDecimal x, BigDecimal y) {
        check.due("compare" + Check.of(text(x), text(y)), Check.desk(text(x), text(y)).compare(0, 1), x.compareTo(y));
        String[] due = {x.toString(), x.toPlainString(), x.toEngineeringString()};
        for (int kind = 0; kind < 3; kind++) {
            check.due("kind " + kind + Check.of(text(x)), Check.written(text(x), kind), due[kind]);
        }
    }
}
