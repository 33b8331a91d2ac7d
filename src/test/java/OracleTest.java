import java.math.BigInteger;
import java.util.Random;

/**
 * Many calls, each against the model (promises 4 to 20): some with numbers of all shapes and lengths,
 * more with short ones, where the cases that rounding tells apart are near each other.
 */
public final class OracleTest {
    private static final int RUNS = 24;
    private static final int SHORT_RUNS = 2000;
    private static final int CALLS = 60;

    private final Random random;
    private final Check check;
    private final boolean isShort;
    private final DecimalDesk desk = new DecimalDesk();
    private final Model.Dec[] model = new Model.Dec[10];

    private OracleTest(Random random, Check check, boolean isShort) {
        this.random = random;
        this.check = check;
        this.isShort = isShort;
        java.util.Arrays.fill(model, new Model.Dec(BigInteger.ZERO, 0));
    }

    public static void main(String[] args) {
        Check check = new Check();
        long seed = args.length > 0 ? Long.parseLong(args[0]) : 1;
        int runs = args.length > 1 ? Integer.parseInt(args[1]) : RUNS;
        Random random = new Random(seed);
        for (int i = 0; i < runs + SHORT_RUNS; i++) {
            OracleTest run = new OracleTest(random, check, i >= runs);
            for (int j = 0; j < CALLS; j++) {
                run.step();
            }
            run.compareAll();
        }
        check.finish();
    }

    private int upTo(int most) {
        return random.nextInt(most + 1);
    }

    private int length() {
        if (isShort) {
            return 1 + upTo(3);
        }
        switch (random.nextInt(6)) {
            case 0: return 1 + upTo(3);
            case 1: return 1 + upTo(30);
            case 2: return 9 * (1 + upTo(20)) + upTo(2);
            case 3: return 1 + upTo(999);
            case 4: return 470 + upTo(60);
            default: return 990 + upTo(10);
        }
    }

    private String digits(int length) {
        StringBuilder text = new StringBuilder();
        String[] limbs = {"000000000", "999999999", "500000000", "499999999", "000000001", "999999998"};
        int shape = random.nextInt(5);
        while (text.length() < length) {
            switch (shape) {
                case 0: text.append(random.nextInt(10)); break;
                case 1: text.append(limbs[random.nextInt(limbs.length)]); break;
                case 2: text.append('9'); break;
                case 3: text.append(text.length() == 0 ? "1" : "0"); break;
                default: text.append(random.nextInt(4) == 0 ? limbs[random.nextInt(limbs.length)]
                        : String.format("%09d", random.nextInt(1000000000)));
            }
        }
        text.setLength(length);
        if (random.nextInt(4) == 0) {
            int zeros = upTo(length - 1);
            text.replace(length - zeros, length, "0".repeat(zeros));
        }
        if (random.nextInt(4) == 0) {
            text.setCharAt(length - 1, (char) ('0' + random.nextInt(10)));
        }
        return text.toString();
    }

    private int scale() {
        if (isShort) {
            return upTo(6) - 3;
        }
        switch (random.nextInt(8)) {
            case 0: return 0;
            case 1: return 10000 - upTo(20);
            case 2: return -10000 + upTo(20);
            case 3: return upTo(20000) - 10000;
            case 4: return upTo(2000) - 1000;
            default: return upTo(24) - 8;
        }
    }

    private int precision() {
        if (isShort) {
            return upTo(5);
        }
        switch (random.nextInt(5)) {
            case 0: return 0;
            case 1: return 1000 - upTo(2);
            case 2: return 1 + upTo(999);
            default: return 1 + upTo(20);
        }
    }

    private BigInteger number() {
        BigInteger number = new BigInteger(digits(length()));
        switch (isShort ? 2 + random.nextInt(3) : random.nextInt(8)) {
            case 0:
                number = BigInteger.TWO.pow(upTo(200)).multiply(BigInteger.valueOf(5).pow(upTo(200)));
                break;
            case 1:
                number = new BigInteger(digits(1 + upTo(499)));
                number = number.multiply(number);
                break;
            case 2:
                number = BigInteger.valueOf(upTo(20));
                break;
            default:
        }
        return random.nextInt(3) == 0 ? number.negate() : number;
    }

    private String numberText() {
        BigInteger number = number();
        String digits = number.abs().toString();
        int point = upTo(digits.length() + 2);
        int wanted = scale();
        StringBuilder text = new StringBuilder(number.signum() < 0 ? "-" : random.nextBoolean() ? "+" : "");
        if (point <= digits.length()) {
            text.append(digits, 0, point).append('.').append(digits.substring(point));
        } else {
            text.append("00").append(digits);
        }
        int behind = point <= digits.length() ? digits.length() - point : 0;
        if (behind != wanted || random.nextBoolean()) {
            text.append(random.nextBoolean() ? 'e' : 'E').append(behind - wanted);
        }
        return text.toString();
    }

    private void fresh(int register) {
        String text = numberText();
        desk.wipe();
        Check.draft(desk, text);
        String got = Check.thrown(() -> desk.read(register));
        java.math.BigDecimal said = new java.math.BigDecimal(text);
        settle("read " + text, got, register, new Model.Dec(said.unscaledValue(), said.scale()));
    }

    private void settle(String what, String thrown, int to, Model.Dec result) {
        Model.Dec want = null;
        try {
            want = result == null ? null : Model.kept(result);
        } catch (Model.Refusal e) {
            want = null;
        }
        check.due(what, thrown, want == null ? "ArithmeticException" : "");
        if (want != null) {
            model[to] = want;
        }
        check.due(what + " register " + to, Check.told(desk, to), model[to].toString());
    }

    private interface Call {
        Model.Dec answer() throws Model.Refusal;
    }

    private void both(String what, int to, Runnable call, Call due) {
        String thrown = Check.thrown(call);
        Model.Dec want;
        try {
            want = due.answer();
        } catch (Model.Refusal e) {
            want = null;
        }
        settle(what, thrown, to, want);
    }

    private void step() {
        int a = random.nextInt(10);
        int b = random.nextInt(10);
        int to = random.nextInt(10);
        if (random.nextInt(3) == 0) {
            fresh(a);
        }
        Model.Dec x = model[a];
        Model.Dec y = model[b];
        int mode = random.nextInt(8);
        int scale = scale();
        int precision = precision();
        String with = "(" + x + ", " + y + ", ";
        switch (random.nextInt(15)) {
            case 0:
                both("add" + with, to, () -> desk.add(a, b, to, false), () -> Model.add(x, y, false));
                break;
            case 1:
                both("less" + with, to, () -> desk.add(a, b, to, true), () -> Model.add(x, y, true));
                break;
            case 2:
                both("multiply" + with, to, () -> desk.multiply(a, b, to),
                        () -> new Model.Dec(x.number.multiply(y.number), x.scale + y.scale));
                break;
            case 3:
                divide(a, b, to, mode);
                break;
            case 4:
                both("quotient" + with + precision + ", " + mode, to,
                        () -> desk.quotient(a, b, to, precision, mode), () -> Model.quotient(x, y, precision, mode));
                break;
            case 5:
                both("remainder" + with, to, () -> desk.remainder(a, b, to), () -> Model.remainder(x, y));
                break;
            case 6:
                power(a, to);
                break;
            case 7:
                int least = Math.max(1, precision);
                both("root" + with + least + ", " + mode, to,
                        () -> desk.root(a, to, least, mode), () -> Model.root(x, least, mode));
                break;
            case 8:
                int near = random.nextBoolean() ? scale : nearScale(x.scale + (isShort ? upTo(5) - 4 : upTo(1000) - 900));
                both("toScale" + with + near + ", " + mode, to,
                        () -> desk.toScale(a, to, near, mode), () -> Model.toScale(Model.Real.of(x), near, mode));
                break;
            case 9:
                int most = Math.max(1, precision);
                both("round" + with + most + ", " + mode, to, () -> desk.round(a, to, most, mode),
                        () -> Model.toPrecision(Model.Real.of(x), most, x.scale, mode));
                break;
            case 10:
                both("strip" + with, to, () -> desk.strip(a, to), () -> Model.strip(x));
                break;
            case 11:
                both("shift" + with + scale, to, () -> desk.shift(a, to, scale),
                        () -> new Model.Dec(x.number, x.scale - scale));
                break;
            case 12:
                both("negate" + with, to, () -> desk.negate(a, to), () -> new Model.Dec(x.number.negate(), x.scale));
                break;
            case 13:
                check.due("compare" + with, desk.compare(a, b), Model.compare(x, y));
                break;
            default:
                int kind = random.nextInt(3);
                check.due("written" + with + kind, Check.written(desk, a, kind), Model.written(x, kind));
        }
    }

    private static int nearScale(long wanted) {
        return (int) Math.max(-10000, Math.min(10000, wanted));
    }

    private void divide(int a, int b, int to, int mode) {
        Model.Dec x = model[a];
        Model.Dec y = model[b];
        // A scale that leaves some 0 to 1000 digits of the quotient, or any other.
        long lead = x.precision() - x.scale - y.precision() + y.scale;
        int scale = isShort || random.nextInt(4) == 0 ? scale() : nearScale(upTo(1010) - 5 - lead);
        both("divide(" + x + ", " + y + ", " + scale + ", " + mode, to,
                () -> desk.divide(a, b, to, scale, mode), () -> Model.toScale(Model.ratio(x, y), scale, mode));
    }

    private void power(int a, int to) {
        Model.Dec x = model[a];
        int fitting = 1000 / Math.max(1, x.precision() - 1);
        int n = isShort ? upTo(4) : random.nextInt(3) == 0 ? upTo(999) : Math.min(999, upTo(fitting + 2));
        both("power(" + x + ", " + n, to, () -> desk.power(a, n, to), () -> Model.power(x, n));
    }

    private void compareAll() {
        for (int i = 0; i < 10; i++) {
            check.due("register " + i, Check.told(desk, i), model[i].toString());
        }
    }
}
