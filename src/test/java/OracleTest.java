import java.math.BigInteger;
import java.util.Random;

/**
 * Many calls, each against the model (promises 4 to 20): some with numbers of all shapes and lengths,
 * more with short ones, where the cases that rounding tells apart are near each other.
 */
public final class OracleTest {
    private static final int RUNS = 24;
    private static final int SHORT_RUNS = 2000;
    private static final int STEPS = 60;

    /** An object has so many calls; for those behind them there is a new one. */
    private static final int CALLS_OF_AN_OBJECT = 512;

    private final Random random;
    private final Check check;
    private final boolean isShort;
    private final Model.Dec[] model = new Model.Dec[10];

    /** The register that has what is due, for comparing; the others are those of the model. */
    private final int spare;
    private DecimalDesk desk;
    private int used = CALLS_OF_AN_OBJECT;
    private boolean[] loaded;

    private OracleTest(Random random, Check check, boolean isShort) {
        this.random = random;
        this.check = check;
        this.isShort = isShort;
        this.spare = random.nextInt(10);
        java.util.Arrays.fill(model, new Model.Dec(BigInteger.ZERO, 0));
    }

    public static void main(String[] args) {
        Check check = new Check();
        long seed = args.length > 0 ? Long.parseLong(args[0]) : 1;
        int runs = args.length > 1 ? Integer.parseInt(args[1]) : RUNS;
        Random random = new Random(seed);
        for (int i = 0; i < runs + SHORT_RUNS; i++) {
            OracleTest run = new OracleTest(random, check, i >= runs);
            for (int j = 0; j < STEPS; j++) {
                run.step();
            }
        }
        check.finish();
    }

    private int upTo(int most) {
        return random.nextInt(most + 1);
    }

    private int length() {
        if (isShort) {
            return 1 + upTo(3);
        }
        switch (random.nextInt(6)) {
            case 0: return 1 + upTo(3);
            case 1: return 1 + upTo(30);
            case 2: return 9 * (1 + upTo(20)) + upTo(2);
            case 3: return 1 + upTo(999);
            case 4: return 470 + upTo(60);
            default: return 990 + upTo(10);
        }
    }

    private String digits(int length) {
        StringBuilder text = new StringBuilder();
        String[] limbs = {"000000000", "999999999", "500000000", "499999999", "000000001", "999999998"};
        int shape = random.nextInt(5);
        while (text.length() < length) {
            switch (shape) {
                case 0: text.append(random.nextInt(10)); break;
                case 1: text.append(limbs[random.nextInt(limbs.length)]); break;
                case 2: text.append('9'); break;
                case 3: text.append(text.length() == 0 ? "1" : "0"); break;
                default: text.append(random.nextInt(4) == 0 ? limbs[random.nextInt(limbs.length)]
                        : String.format("%09d", random.nextInt(1000000000)));
            }
        }
        text.setLength(length);
        if (random.nextInt(4) == 0) {
            int zeros = upTo(length - 1);
            text.replace(length - zeros, length, "0".repeat(zeros));
        }
        if (random.nextInt(4) == 0) {
            text.setCharAt(length - 1, (char) ('0' + random.nextInt(10)));
        }
        return text.toString();
    }

    private int scale() {
        if (isShort) {
            return upTo(6) - 3;
        }
        switch (random.nextInt(8)) {
            case 0: return 0;
            case 1: return 10000 - upTo(20);
            case 2: return -10000 + upTo(20);
            case 3: return upTo(20000) - 10000;
            case 4: return upTo(2000) - 1000;
            default: return upTo(24) - 8;
        }
    }

    private int precision() {
        if (isShort) {
            return upTo(5);
        }
        switch (random.nextInt(5)) {
            case 0: return 0;
            case 1: return 1000 - upTo(2);
            case 2: return 1 + upTo(999);
            default: return 1 + upTo(20);
        }
    }

    private BigInteger number() {
        BigInteger number = new BigInteger(digits(length()));
        switch (isShort ? 2 + random.nextInt(3) : random.nextInt(8)) {
            case 0:
                number = BigInteger.TWO.pow(upTo(200)).multiply(BigInteger.valueOf(5).pow(upTo(200)));
                break;
            case 1:
                number = new BigInteger(digits(1 + upTo(499)));
                number = number.multiply(number);
                break;
            case 2:
                number = BigInteger.valueOf(upTo(20));
                break;
            default:
        }
        return random.nextInt(3) == 0 ? number.negate() : number;
    }

    private String numberText() {
        BigInteger number = number();
        String digits = number.abs().toString();
        int point = upTo(digits.length() + 2);
        int wanted = scale();
        StringBuilder text = new StringBuilder(number.signum() < 0 ? "-" : random.nextBoolean() ? "+" : "");
        if (point <= digits.length()) {
            text.append(digits, 0, point).append('.').append(digits.substring(point));
        } else {
            text.append("00").append(digits);
        }
        int behind = point <= digits.length() ? digits.length() - point : 0;
        if (behind != wanted || random.nextBoolean()) {
            text.append(random.nextBoolean() ? 'e' : 'E').append(behind - wanted);
        }
        return text.toString();
    }

    private int register() {
        int register = random.nextInt(9);
        return register < spare ? register : register + 1;
    }

    private interface Answer {
        Model.Dec given() throws Model.Refusal;
    }

    /** What the model answers, or null where it refuses. */
    private static Model.Dec kept(Answer answer) {
        try {
            return Model.kept(answer.given());
        } catch (Model.Refusal e) {
            return null;
        }
    }

    private static int callsToLoad(Model.Dec x) {
        return Check.callsToSet(Check.numberText(x.toString()));
    }

    private static int callsToHold(Model.Dec x) {
        return 3 + (Check.isLong(x.toString()) ? callsToLoad(x) : x.precision());
    }

    /** The registers have what the model says, and so many calls are left behind that. */
    private void prepare(int a, int b, int calls) {
        int more = calls + (loaded == null || loaded[a] ? 0 : callsToLoad(model[a]))
                + (loaded == null || loaded[b] ? 0 : callsToLoad(model[b]));
        if (used + more > CALLS_OF_AN_OBJECT) {
            desk = new DecimalDesk();
            loaded = new boolean[10];
            used = 0;
        }
        load(a);
        load(b);
        used += calls;
    }

    private void load(int register) {
        if (!loaded[register]) {
            Check.set(desk, register, Check.numberText(model[register].toString()));
            used += callsToLoad(model[register]);
            loaded[register] = true;
        }
    }

    private void both(String what, int a, int b, int to, Check.Call call, Answer answer) {
        Model.Dec want = kept(answer);
        Model.Dec due = want == null ? model[a] : want;
        prepare(a, b, 1 + callsToHold(due));
        check.due(what, Check.thrown(() -> call.on(desk)), want == null ? "ArithmeticException" : "");
        if (want != null) {
            model[to] = want;
            loaded[to] = true;
        }
        check.holds(what + " leaves", desk, want == null ? a : to, due.toString(), spare);
    }

    private void fresh(int register) {
        String text = numberText();
        java.math.BigDecimal said = new java.math.BigDecimal(text);
        Model.Dec want = kept(() -> new Model.Dec(said.unscaledValue(), said.scale()));
        Model.Dec due = want == null ? model[register] : want;
        prepare(register, register, Check.callsToSet(text) + callsToHold(due));
        desk.wipe();
        Check.draft(desk, text);
        check.due("read " + text, Check.thrown(() -> desk.read(register)), want == null ? "ArithmeticException" : "");
        model[register] = due;
        check.holds("read " + text, desk, register, due.toString(), spare);
    }

    private void written(int a, int kind) {
        Model.Dec x = model[a];
        String due = Model.written(x, kind);
        String what = "written " + x + " in kind " + kind;
        if (due.length() > 60) {
            check.due(what, Check.written(Check.numberText(x.toString()), kind), due);
            return;
        }
        prepare(a, a, due.length() + 2);
        check.due(what, desk.written(a, kind), due.length());
        check.due(what, Check.lastWritten(desk), due);
    }

    private void step() {
        int a = register();
        int b = register();
        if (random.nextInt(3) == 0) {
            fresh(a);
        }
        switch (random.nextInt(3)) {
            case 0:
                stepOfTwo(a, b, register());
                break;
            case 1:
                stepByMode(a, b, register(), random.nextInt(8));
                break;
            default:
                stepOfOne(a, register());
        }
    }

    private void stepOfTwo(int a, int b, int to) {
        Model.Dec x = model[a];
        Model.Dec y = model[b];
        String with = "(" + x + ", " + y;
        switch (random.nextInt(5)) {
            case 0:
                both("add" + with, a, b, to, d -> d.add(a, b, to, false), () -> Model.add(x, y, false));
                break;
            case 1:
                both("less" + with, a, b, to, d -> d.add(a, b, to, true), () -> Model.add(x, y, true));
                break;
            case 2:
                both("multiply" + with, a, b, to, d -> d.multiply(a, b, to),
                        () -> new Model.Dec(x.number.multiply(y.number), x.scale + y.scale));
                break;
            case 3:
                both("remainder" + with, a, b, to, d -> d.remainder(a, b, to), () -> Model.remainder(x, y));
                break;
            default:
                prepare(a, b, 1);
                check.due("compare" + with, desk.compare(a, b), Model.compare(x, y));
        }
    }

    private void stepByMode(int a, int b, int to, int mode) {
        Model.Dec x = model[a];
        Model.Dec y = model[b];
        int precision = precision();
        int least = Math.max(1, precision);
        String with = "(" + x + ", " + y + ", " + precision + ", " + mode;
        switch (random.nextInt(5)) {
            case 0:
                divide(a, b, to, mode);
                break;
            case 1:
                both("quotient" + with, a, b, to, d -> d.quotient(a, b, to, precision, mode),
                        () -> Model.quotient(x, y, precision, mode));
                break;
            case 2:
                both("root" + with, a, a, to, d -> d.root(a, to, least, mode), () -> Model.root(x, least, mode));
                break;
            case 3:
                int near = nearScale(x.scale + (isShort ? upTo(5) - 4 : upTo(1000) - 900));
                int scale = random.nextBoolean() ? scale() : near;
                both("toScale" + with + ", " + scale, a, a, to, d -> d.toScale(a, to, scale, mode),
                        () -> Model.toScale(Model.Real.of(x), scale, mode));
                break;
            default:
                both("round" + with, a, a, to, d -> d.round(a, to, least, mode),
                        () -> Model.toPrecision(Model.Real.of(x), least, x.scale, mode));
        }
    }

    private void stepOfOne(int a, int to) {
        Model.Dec x = model[a];
        int scale = scale();
        String with = "(" + x;
        switch (random.nextInt(5)) {
            case 0:
                power(a, to);
                break;
            case 1:
                both("strip" + with, a, a, to, d -> d.strip(a, to), () -> Model.strip(x));
                break;
            case 2:
                both("shift" + with + ", " + scale, a, a, to, d -> d.shift(a, to, scale),
                        () -> new Model.Dec(x.number, x.scale - scale));
                break;
            case 3:
                both("negate" + with, a, a, to, d -> d.negate(a, to), () -> new Model.Dec(x.number.negate(), x.scale));
                break;
            default:
                written(a, random.nextInt(3));
        }
    }

    private static int nearScale(long wanted) {
        return (int) Math.max(-10000, Math.min(10000, wanted));
    }

    private void divide(int a, int b, int to, int mode) {
        Model.Dec x = model[a];
        Model.Dec y = model[b];
        // A scale that leaves some 0 to 1000 digits of the quotient, or any other.
        long lead = x.precision() - x.scale - y.precision() + y.scale;
        int scale = isShort || random.nextInt(4) == 0 ? scale() : nearScale(upTo(1010) - 5 - lead);
        both("divide(" + x + ", " + y + ", " + scale + ", " + mode, a, b, to,
                d -> d.divide(a, b, to, scale, mode), () -> Model.toScale(Model.ratio(x, y), scale, mode));
    }

    private void power(int a, int to) {
        Model.Dec x = model[a];
        int fitting = 1000 / Math.max(1, x.precision() - 1);
        int n = isShort ? upTo(4) : random.nextInt(3) == 0 ? upTo(999) : Math.min(999, upTo(fitting + 2));
        both("power(" + x + ", " + n, a, a, to, d -> d.power(a, n, to), () -> Model.power(x, n));
    }
}
