import java.math.BigDecimal;
import java.math.BigInteger;

/** The boundary cases that the document names before its promises, sentence by sentence. */
public final class TermsBoundaryTest {
    private static final Bounds BOUNDS = new Bounds();
    private static final String NINES = Bounds.NINES;
    private static final String TEN_TO_999 = Bounds.TEN_TO_999;
    private static final int A = Bounds.A;
    private static final int B = Bounds.B;
    private static final int TO = Bounds.TO;

    private TermsBoundaryTest() {
    }

    public static void main(String[] args) {
        Runnable[] parts = {
            TermsBoundaryTest::lastCall, TermsBoundaryTest::precisionOfZero, TermsBoundaryTest::sameValue,
            TermsBoundaryTest::registers, TermsBoundaryTest::limitsOfReadAndPut,
            TermsBoundaryTest::limitsOfAddAndMultiply, TermsBoundaryTest::limitsOfDivision,
            TermsBoundaryTest::limitsOfPowerAndRoot, TermsBoundaryTest::limitsOfRounding,
            TermsBoundaryTest::limitsOfStripShiftAndNegate, TermsBoundaryTest::modes, TermsBoundaryTest::rootsByModes,
            TermsBoundaryTest::modeNone, TermsBoundaryTest::integers, TermsBoundaryTest::toScale,
            TermsBoundaryTest::toPrecisionExactly, TermsBoundaryTest::toPrecisionRounded,
            TermsBoundaryTest::scalesOfAnySize,
        };
        BOUNDS.run(parts);
    }

    /** The last call that is promised, behind 511 others of each sort. */
    private static void lastCall() {
        BOUNDS.sentence("What it is", "An object is used for at most 512 calls after it has been made");
        int[] due = {1, 0, 3, 5, 1, 0};
        for (int what = 0; what < due.length; what++) {
            DecimalDesk desk = new DecimalDesk();
            desk.put(B, 1, 0);
            for (int call = 2; call <= 511; call++) {
                desk.add(A, B, A, false);
            }
            BOUNDS.due("call 512, told(0, " + what + ")", desk.told(A, what), due[what]);
        }
        DecimalDesk desk = Check.desk(NINES, "7e-10000", "1e10000");
        for (int call = 136; call < 505; call += 3) {
            desk.remainder(2, B, 3);
            desk.quotient(A, B, 4, 1000, 4);
            desk.root(B, 5, 1000, 6);
        }
        desk.remainder(2, B, 3);
        BOUNDS.due("a late call's rest", desk.told(3, 3), 2);
        BOUNDS.due("a late call's quotient", desk.told(4, 3), 1);
        BOUNDS.due("a late call's root", desk.told(5, 4), 6);
        DecimalDesk refusing = new DecimalDesk();
        for (int call = 1; call <= 511; call++) {
            Check.thrown(() -> refusing.quotient(A, B, TO, 5, 4));
        }
        BOUNDS.due("call 512 is refused as well", Check.thrown(() -> refusing.divide(A, B, TO, 5, 4)),
                "ArithmeticException");
    }

    private static void precisionOfZero() {
        BOUNDS.sentence("Terms", "Its PRECISION is how many digits u has (0 has one).");
        String[][] rows = {
            {"0", "1"}, {"0.000", "1"}, {"0e10000", "1"}, {"-0", "1"}, {"9", "1"}, {"-9", "1"}, {"10", "2"},
            {"-10", "2"}, {"0.01", "1"}, {"99999999", "8"}, {"100000000", "9"}, {"999999999", "9"},
            {"1000000000", "10"}, {"999999999999999999", "18"}, {"1000000000000000000", "19"},
            {"9".repeat(999), "999"}, {TEN_TO_999, "1000"}, {"-" + NINES, "1000"}, {"0".repeat(99) + NINES, "1000"},
        };
        for (String[] row : rows) {
            DecimalDesk desk = Check.desk(row[0]);
            BOUNDS.due("the precision of " + row[0], desk.told(A, 2), Integer.parseInt(row[1]));
        }
    }

    private static void sameValue() {
        BOUNDS.sentence("Terms", "Decimals of the same value may have different scales.");
        String[] numbers = {"1e2", "10e1", "100", "100.0", "100.00"};
        DecimalDesk desk = Check.desk(numbers);
        for (int i = 0; i < numbers.length; i++) {
            BOUNDS.due("the scale of " + numbers[i], desk.told(i, 1), i - 2);
            BOUNDS.due("the precision of " + numbers[i], desk.told(i, 2), i + 1);
            BOUNDS.due("compare with " + numbers[i], desk.compare(0, i), 0);
        }
    }

    private static void registers() {
        BOUNDS.sentence("Terms", "REGISTERS 0 .. 9 have a decimal each, at first the number 0 with the scale 0.");
        DecimalDesk desk = new DecimalDesk();
        for (int i = 0; i < 10; i++) {
            BOUNDS.holds("register " + i + " at first", desk, i, "0s0");
        }
        for (int i = 0; i < 10; i++) {
            desk.put(i, 10 + i, i);
        }
        for (int i = 0; i < 10; i++) {
            BOUNDS.holds("register " + i + " for itself", desk, i, 10 + i + "s" + i);
        }
        BOUNDS.illegal("put into register -1", x -> x.put(-1, 5, 0));
        BOUNDS.illegal("put into register 10", x -> x.put(10, 5, 0));
    }

    private static void limits() {
        BOUNDS.sentence("Terms", "A precision is at most 1000, and a scale -10000 .. 10000: a call that would put "
                + "another decimal into a register throws ArithmeticException.");
    }

    private static void reads(String text, String due) {
        BOUNDS.gives("read " + text, desk -> {
            Check.draft(desk, text);
            desk.read(TO);
        }, due);
    }

    private static void readsNot(String text) {
        BOUNDS.refusedWithDraft(text, "read " + text, ArithmeticException.class, desk -> desk.read(TO));
    }

    private static void limitsOfReadAndPut() {
        limits();
        reads(NINES, NINES + "s0");
        reads("-" + NINES + "e-10000", "-" + NINES + "s10000");
        reads("0".repeat(99) + TEN_TO_999, TEN_TO_999 + "s0");
        reads("." + "0".repeat(99) + NINES, NINES + "s1099");
        reads("0".repeat(1100), "0s0");
        reads("1e10000", "1s-10000");
        reads("0.1e-9999", "1s10000");
        reads("0e-10000", "0s10000");
        readsNot(NINES + "9");
        readsNot("-1" + "0".repeat(1000));
        readsNot("0.1" + "0".repeat(1000));
        readsNot("1".repeat(1100));
        readsNot("1e10001");
        readsNot("1e-10001");
        readsNot("0.1e-10000");
        readsNot("0e10001");
        readsNot("0e-10001");
        BOUNDS.gives("put at 10000", desk -> desk.put(TO, -5, 10000), "-5s10000");
        BOUNDS.gives("put at -10000", desk -> desk.put(TO, -5, -10000), "-5s-10000");
        BOUNDS.gives("put the least long", desk -> desk.put(TO, Long.MIN_VALUE, 10000), "-9223372036854775808s10000");
        BOUNDS.gives("put the greatest long", desk -> desk.put(TO, Long.MAX_VALUE, 0), "9223372036854775807s0");
        int[] scales = {10001, -10001, 32768, 65536, Bounds.LEAST, Bounds.MOST};
        for (int scale : scales) {
            BOUNDS.arithmetic("put 5 at " + scale, desk -> desk.put(TO, 5, scale));
            BOUNDS.arithmetic("put 0 at " + scale, desk -> desk.put(TO, 0, scale));
        }
    }

    private static void limitsOfAddAndMultiply() {
        limits();
        Bounds.Call sum = desk -> desk.add(A, B, TO, false);
        Bounds.Call less = desk -> desk.add(A, B, TO, true);
        BOUNDS.gives("add", sum, NINES + "s0", NINES, "0");
        BOUNDS.gives("add", sum, NINES + "s0", "9e999", "9".repeat(999));
        BOUNDS.gives("less", less, "-" + NINES + "s0", "-" + NINES.substring(1) + "8", "1");
        BOUNDS.gives("less, from 1001 digits", less, "1s0", "1e1000", NINES);
        BOUNDS.gives("add, from 1001 digits", sum, "-1s0", NINES, "-1e1000");
        BOUNDS.gives("add", sum, TEN_TO_999 + "s0", "0", "1e999");
        BOUNDS.gives("add", sum, "1s10000", "0e10000", "1e-10000");
        BOUNDS.arithmetic("add", sum, NINES, "1");
        BOUNDS.arithmetic("less", less, "-" + NINES, "1");
        BOUNDS.arithmetic("less", less, "1", "-" + NINES);
        BOUNDS.arithmetic("add", sum, NINES, "0.0");
        BOUNDS.arithmetic("add", sum, "0", "1e1000");
        BOUNDS.arithmetic("less", less, "1e1001", NINES);
        BOUNDS.arithmetic("add", sum, "1e10000", "1e-10000");
        BOUNDS.arithmetic("less", less, "0e-10000", "1e10000");
        Bounds.Call product = desk -> desk.multiply(A, B, TO);
        BOUNDS.gives("multiply", product, TEN_TO_999 + "s0", "1" + "0".repeat(500), "1" + "0".repeat(499));
        BOUNDS.gives("multiply", product, NINES + "s0", "3".repeat(1000), "3");
        BOUNDS.gives("multiply", product, "1s10000", "1e-9999", "0.1");
        BOUNDS.gives("multiply", product, "1s-10000", "1e5000", "1e5000");
        BOUNDS.gives("multiply", product, "0s10000", "0e-10000", "7");
        BOUNDS.arithmetic("multiply", product, "1" + "0".repeat(500), "1" + "0".repeat(500));
        BOUNDS.arithmetic("multiply", product, "5" + "0".repeat(999), "-2");
        BOUNDS.arithmetic("multiply", product, NINES, NINES);
        BOUNDS.arithmetic("multiply", product, "1e-10000", "0.1");
        BOUNDS.arithmetic("multiply", product, "1e10000", "1e1");
        BOUNDS.arithmetic("multiply", product, "0e-10000", "0.1");
        BOUNDS.arithmetic("multiply", product, "1e10000", "1e10000");
    }

    private static Bounds.Call divided(int scale, int mode) {
        return desk -> desk.divide(A, B, TO, scale, mode);
    }

    private static Bounds.Call quotient(int precision, int mode) {
        return desk -> desk.quotient(A, B, TO, precision, mode);
    }

    private static Bounds.Call rounded(int precision, int mode) {
        return desk -> desk.round(A, TO, precision, mode);
    }

    private static Bounds.Call scaled(int scale, int mode) {
        return desk -> desk.toScale(A, TO, scale, mode);
    }

    private static Bounds.Call raised(int n) {
        return desk -> desk.power(A, n, TO);
    }

    private static Bounds.Call rooted(int precision, int mode) {
        return desk -> desk.root(A, TO, precision, mode);
    }

    private static Bounds.Call shifted(int n) {
        return desk -> desk.shift(A, TO, n);
    }

    private static void limitsOfDivision() {
        limits();
        BOUNDS.gives("divide to 999", divided(999, 4), TEN_TO_999 + "s999", "7", "7");
        BOUNDS.gives("divide to 1000", divided(1000, 1), "3".repeat(1000) + "s1000", "1", "3");
        BOUNDS.gives("divide to 10000", divided(10000, 0), "1s10000", "1e-10000", "1e10000");
        BOUNDS.gives("divide to -10000", divided(-10000, 3), "-1s-10000", "1e-10000", "-1e10000");
        BOUNDS.arithmetic("divide to 1000", divided(1000, 4), "7", "7");
        BOUNDS.arithmetic("divide to 1001", divided(1001, 1), "1", "3");
        BOUNDS.arithmetic("divide to 10000", divided(10000, 1), "1e10000", "1e-10000");
        BOUNDS.arithmetic("divide to 0", divided(0, 1), NINES, "0.1");
        BOUNDS.gives("quotient", quotient(1, 1), "3s10000", "1e-5000", "3e4999");
        BOUNDS.arithmetic("quotient", quotient(1, 1), "1e-5000", "3e5000");
        BOUNDS.arithmetic("quotient", quotient(2, 1), "1e-5000", "3e4999");
        BOUNDS.gives("quotient", quotient(1, 1), "3s-10000", "1e10000", "0.3");
        BOUNDS.arithmetic("quotient", quotient(1, 1), "1e10000", "0.03");
        BOUNDS.gives("quotient", quotient(2, 1), "33s-10000", "1e10000", "0.03");
        BOUNDS.gives("exact quotient", quotient(0, 1), "5".repeat(1000) + "s0", "5".repeat(1000), "1");
        BigInteger five = BigInteger.valueOf(5);
        BOUNDS.gives("exact quotient", quotient(0, 1), five.pow(1430) + "s1430", "1", BigInteger.TWO.pow(1430) + "");
        BOUNDS.arithmetic("exact quotient", quotient(0, 1), "1", BigInteger.TWO.pow(1431) + "");
        BOUNDS.gives("exact quotient", quotient(0, 1), "5s10000", "1e-9999", "2");
        BOUNDS.arithmetic("exact quotient", quotient(0, 1), "1e-10000", "2");
        BOUNDS.arithmetic("exact quotient", quotient(0, 1), "1e10000", "0.1");
        Bounds.Call rest = desk -> desk.remainder(A, B, TO);
        BOUNDS.gives("remainder", rest, "-" + NINES + "s10000", "-" + NINES + "e-10000", "1e10000");
        BOUNDS.gives("remainder", rest, TEN_TO_999 + "s10000", "1e9999", NINES + "e-10000");
    }

    private static void limitsOfPowerAndRoot() {
        limits();
        BOUNDS.gives("power 999", raised(999), TEN_TO_999 + "s0", "10");
        BOUNDS.gives("power 499", raised(499), "1" + "0".repeat(998) + "s0", "100");
        BOUNDS.gives("power 1", raised(1), "-" + NINES + "s0", "-" + NINES);
        BOUNDS.gives("power 2", raised(2), "1s-10000", "1e5000");
        BOUNDS.gives("power 2", raised(2), "1s10000", "1e-5000");
        BOUNDS.gives("power 100", raised(100), "0s10000", "0e-100");
        BOUNDS.gives("power 0", raised(0), "1s0", NINES + "e10000");
        BOUNDS.arithmetic("power 500", raised(500), "100");
        BOUNDS.arithmetic("power 999", raised(999), "11");
        BOUNDS.arithmetic("power 2", raised(2), NINES);
        BOUNDS.arithmetic("power 999", raised(999), NINES);
        BOUNDS.arithmetic("power 2", raised(2), "1e5001");
        BOUNDS.arithmetic("power 2", raised(2), "1e-5001");
        BOUNDS.arithmetic("power 3", raised(3), "0e3334");
        BOUNDS.arithmetic("power 999", raised(999), "1e-10000");
        BOUNDS.gives("root", rooted(1000, 1), NINES + "s500", NINES);
        BOUNDS.gives("root", rooted(1000, 7), "1s5000", "1e-10000");
        BOUNDS.gives("root", rooted(1000, 7), "1s-5000", "1e10000");
        BOUNDS.gives("root", rooted(1, 0), "1s-5500", NINES + "e10000");
        BOUNDS.gives("root", rooted(1000, 1), BigInteger.TEN.pow(1999).sqrt() + "s5999", "1e-9999");
    }

    private static void limitsOfRounding() {
        limits();
        BOUNDS.gives("toScale 999", scaled(999, 7), TEN_TO_999 + "s999", "1");
        BOUNDS.gives("toScale 10000", scaled(10000, 7), "0s10000", "0e10000");
        BOUNDS.gives("toScale -10000", scaled(-10000, 2), "1s-10000", "1e-10000");
        BOUNDS.gives("toScale -1", scaled(-1, 4), TEN_TO_999 + "s-1", NINES);
        BOUNDS.arithmetic("toScale 1000", scaled(1000, 7), "1");
        BOUNDS.arithmetic("toScale 1", scaled(1, 7), NINES);
        BOUNDS.arithmetic("toScale 10000", scaled(10000, 1), "1e10000");
        BOUNDS.gives("round", rounded(1, 4), "9s-10000", "94e9999");
        BOUNDS.arithmetic("round", rounded(1, 4), "95e9999");
        BOUNDS.arithmetic("round", rounded(1, 1), "95e10000");
        BOUNDS.gives("round", rounded(1000, 7), NINES + "s-10000", NINES + "e10000");
        BOUNDS.arithmetic("round", rounded(999, 1), NINES + "e10000");
        BOUNDS.gives("round", rounded(1, 7), "1s10000", "1e-10000");
    }

    private static void limitsOfStripShiftAndNegate() {
        limits();
        Bounds.Call stripped = desk -> desk.strip(A, TO);
        BOUNDS.gives("strip", stripped, "1s-10000", "10e9999");
        BOUNDS.arithmetic("strip", stripped, "10e10000");
        BOUNDS.gives("strip", stripped, "-1s-10000", "-" + TEN_TO_999 + "e9001");
        BOUNDS.arithmetic("strip", stripped, "-" + TEN_TO_999 + "e9002");
        BOUNDS.gives("shift", shifted(20000), "1s-10000", "1e-10000");
        BOUNDS.gives("shift", shifted(-20000), NINES + "s10000", NINES + "e10000");
        BOUNDS.arithmetic("shift by 20001", shifted(20001), "1e-10000");
        BOUNDS.arithmetic("shift by -20001", shifted(-20001), "1e10000");
        BOUNDS.arithmetic("shift by 10001", shifted(10001), "0");
        BOUNDS.arithmetic("shift by -10001", shifted(-10001), "0");
        String[] numbers = {"0", "1e-10000", "1e10000", "1e-1", "1e1"};
        for (String number : numbers) {
            BOUNDS.arithmetic("shift by the least int", shifted(Bounds.LEAST), number);
            BOUNDS.arithmetic("shift by the greatest int", shifted(Bounds.MOST), number);
        }
        BOUNDS.gives("negate", desk -> desk.negate(A, TO), "-" + NINES + "s10000", NINES + "e-10000");
    }

    /** Less than the digits of one limb, or of some, would show. */
    private static final String LITTLE = "0".repeat(40) + "1";
    private static final String NEARLY = "9".repeat(41);
    private static final String[] REALS = {
        "-2.5", "-1.5", "-1.0", "-0.999", "-0.6", "-0.5" + LITTLE, "-0.5", "-0.4" + NEARLY, "-0.4", "-0." + LITTLE,
        "0.000",
        "0." + LITTLE, "0.4", "0.4" + NEARLY, "0.5", "0.5" + LITTLE, "0.6", "0.999", "1.0", "1.5", "2.5",
    };

    private static void modes() {
        mode(0, "0 up: the next integer from 0 on outwards",
                -3, -2, -1, -1, -1, -1, -1, -1, -1, -1, 0, 1, 1, 1, 1, 1, 1, 1, 1, 2, 3);
        mode(1, "1 down: the next one towards 0",
                -2, -1, -1, 0, 0, 0, 0, 0, 0, 0, 0, 0, 0, 0, 0, 0, 0, 0, 1, 1, 2);
        mode(2, "2 ceiling: the next one that is not less",
                -2, -1, -1, 0, 0, 0, 0, 0, 0, 0, 0, 1, 1, 1, 1, 1, 1, 1, 1, 2, 3);
        mode(3, "3 floor: the next one that is not greater",
                -3, -2, -1, -1, -1, -1, -1, -1, -1, -1, 0, 0, 0, 0, 0, 0, 0, 0, 1, 1, 2);
        String halves = "4 half up, 5 half down, 6 half even: the nearest one, of two that are as near the one "
                + "farther from 0, nearer to 0, the even one";
        mode(4, halves, -3, -2, -1, -1, -1, -1, -1, 0, 0, 0, 0, 0, 0, 0, 1, 1, 1, 1, 1, 2, 3);
        mode(5, halves, -2, -1, -1, -1, -1, -1, 0, 0, 0, 0, 0, 0, 0, 0, 0, 1, 1, 1, 1, 1, 2);
        mode(6, halves, -2, -2, -1, -1, -1, -1, 0, 0, 0, 0, 0, 0, 0, 0, 0, 1, 1, 1, 1, 2, 2);
    }

    /** Each real number to a scale, and behind 1000 or -1000, where it is to a precision of 4. */
    private static void mode(int mode, String words, int... due) {
        BOUNDS.sentence("Terms", words);
        for (int i = 0; i < REALS.length; i++) {
            String real = REALS[i];
            BOUNDS.gives("toScale", scaled(0, mode), due[i] + "s0", real);
            BOUNDS.gives("toScale -10000", scaled(-10000, mode), due[i] + "s-10000", real + "e10000");
            BOUNDS.gives("divide", divided(0, mode), due[i] + "s0", real + "e2", "100");
            BOUNDS.gives("divide", divided(0, mode), due[i] + "s0", negated(real) + "e9999", "-1e9999");
            boolean below = real.startsWith("-");
            String far = below ? "-100" + real.substring(1) : "100" + real;
            String farDue = (below ? due[i] - 1000 : due[i] + 1000) + "s0";
            if (!real.endsWith("0")) {
                BOUNDS.gives("round", rounded(4, mode), farDue, far);
                BOUNDS.gives("quotient", quotient(4, mode), farDue, far, "1");
                BOUNDS.gives("quotient", quotient(4, mode), farDue, negated(far) + "e2", "-100");
            }
            if (!real.endsWith("0") && !below) {
                BOUNDS.gives("root", rooted(4, mode), farDue, square(far).toPlainString());
            }
        }
    }

    private static BigDecimal square(String number) {
        return new BigDecimal(number).pow(2);
    }

    /** Roots that no decimal has: so near a half, or an integer, that only their last digits tell. */
    private static void rootsByModes() {
        BOUNDS.sentence("Terms", "the nearest one, of two that are as near the one farther from 0, nearer to 0, the "
                + "even one");
        BigDecimal little = new BigDecimal("1e-80");
        String[][] rows = {
            {square("1000.5").add(little).toPlainString(), "1001", "1000", "1001", "1000", "1001", "1001", "1001"},
            {square("1000.5").subtract(little).toPlainString(), "1001", "1000", "1001", "1000", "1000", "1000", "1000"},
            {square("1001.5").subtract(little).toPlainString(), "1002", "1001", "1002", "1001", "1001", "1001", "1001"},
            {square("1000").add(little).toPlainString(), "1001", "1000", "1001", "1000", "1000", "1000", "1000"},
            {square("1001").subtract(little).toPlainString(), "1001", "1000", "1001", "1000", "1001", "1001", "1001"},
        };
        for (String[] row : rows) {
            for (int mode = 0; mode < 7; mode++) {
                BOUNDS.gives("root by mode " + mode, rooted(4, mode), row[1 + mode] + "s0", row[0]);
            }
            BOUNDS.arithmetic("root by mode 7", rooted(4, 7), row[0]);
            BOUNDS.arithmetic("root by mode 7", rooted(80, 7), row[0]);
        }
    }

    private static String negated(String number) {
        return number.startsWith("-") ? number.substring(1) : "-" + number;
    }

    private static void modeNone() {
        BOUNDS.sentence("Terms", "7 none: there must be no need, otherwise ArithmeticException.");
        for (String real : REALS) {
            if (real.endsWith("0")) {
                String whole = real.substring(0, real.indexOf('.'));
                BOUNDS.gives("toScale", scaled(0, 7), whole + "s0", real);
                BOUNDS.gives("divide", divided(0, 7), whole + "s0", real, "1");
            } else {
                BOUNDS.arithmetic("toScale", scaled(0, 7), real);
                BOUNDS.arithmetic("divide", divided(0, 7), real, "1");
                BOUNDS.arithmetic("round", rounded(4, 7), real + "000001");
                BOUNDS.arithmetic("quotient", quotient(4, 7), real + "000001", "1");
            }
        }
        BOUNDS.arithmetic("divide", divided(10000, 7), "1e-10000", "2");
        BOUNDS.arithmetic("divide", divided(-10000, 7), "1e-10000", "1e10000");
        BOUNDS.arithmetic("toScale", scaled(-10000, 7), "1e-10000");
        BOUNDS.arithmetic("quotient", quotient(1000, 7), "1", "3");
        BOUNDS.arithmetic("root", rooted(1000, 7), "2");
        BOUNDS.arithmetic("root", rooted(1, 7), "121");
        BOUNDS.gives("root", rooted(2, 7), "11s0", "121");
        BOUNDS.arithmetic("round", rounded(999, 7), NINES);
        BOUNDS.gives("round", rounded(1, 7), "1s-999", TEN_TO_999);
    }

    private static void integers() {
        BOUNDS.sentence("Terms", "(An integer is itself by each mode.)");
        String[] signs = {"", "-"};
        for (int mode = 0; mode < 8; mode++) {
            for (String sign : signs) {
                BOUNDS.gives("toScale mode " + mode, scaled(0, mode), sign + "12s0", sign + "12.00");
                BOUNDS.gives("toScale mode " + mode, scaled(-2, mode), sign + "5s-2", sign + "500");
                BOUNDS.gives("divide mode " + mode, divided(0, mode), sign + "2s0", sign + "6", "3");
                BOUNDS.gives("round mode " + mode, rounded(2, mode), sign + "12s-2", sign + "1200");
                BOUNDS.gives("quotient mode " + mode, quotient(1, mode), sign + "2s0", sign + "6", "3");
            }
            BOUNDS.gives("root mode " + mode, rooted(1, mode), "3s0", "9");
            BOUNDS.gives("toScale mode " + mode, scaled(0, mode), "0s0", "0.000");
            BOUNDS.gives("divide mode " + mode, divided(0, mode), "0s0", "0.000", "-3");
            BOUNDS.gives("round mode " + mode, rounded(1000, mode), NINES + "s0", NINES);
            BOUNDS.gives("toScale mode " + mode, scaled(-999, mode), "1s-999", TEN_TO_999);
        }
        behindOthers();
    }

    /** What one call had to round is no need to round for the next. */
    private static void behindOthers() {
        Bounds.Call[] inexact = {divided(3, 0), quotient(3, 0), rooted(3, 0), scaled(0, 0), rounded(1, 0)};
        Bounds.Call[] exact = {divided(0, 7), quotient(1, 7), rooted(1, 7), scaled(-1, 7), rounded(1, 7)};
        String[] due = {"100s0", "1s-2", "3s-1", "90s-1", "9s-2"};
        for (Bounds.Call before : inexact) {
            for (int i = 0; i < exact.length; i++) {
                Bounds.Call call = exact[i];
                BOUNDS.gives("exact call " + i + " behind another", desk -> {
                    before.on(desk);
                    desk.put(A, 900, 0);
                    desk.put(B, 9, 0);
                    call.on(desk);
                }, due[i], "1.5", "7");
            }
        }
    }

    private static void toScale() {
        BOUNDS.sentence("Terms", "x TO A SCALE s: the decimal with the scale s whose number is x times 10 to the s, "
                + "rounded.");
        BOUNDS.gives("toScale 0", scaled(0, 4), "0s0", "0.4");
        BOUNDS.gives("toScale 10000", scaled(10000, 4), "5s10000", "5e-10000");
        BOUNDS.gives("toScale 9999", scaled(9999, 4), "1s9999", "5e-10000");
        BOUNDS.gives("toScale 9998", scaled(9998, 4), "0s9998", "5e-10000");
        BOUNDS.gives("toScale -1000", scaled(-1000, 4), "1s-1000", NINES);
        BOUNDS.gives("toScale -1001", scaled(-1001, 4), "0s-1001", NINES);
        BOUNDS.gives("toScale -1001", scaled(-1001, 0), "1s-1001", NINES);
        BOUNDS.gives("toScale 1", scaled(1, 4), "10000s1", "999.95");
        BOUNDS.gives("divide to 3", divided(3, 6), "2000s3", "6", "3");
        BOUNDS.gives("divide to -3", divided(-3, 0), "1s-3", "6", "3");
        BOUNDS.gives("divide to 10000", divided(10000, 4), "0s10000", "1", "3e10000");
    }

    private static void toPrecisionExactly() {
        BOUNDS.sentence("Terms", "if there are decimals of the value x with a precision of at most p, the one of these "
                + "whose scale is nearest to the wish (0 with any scale has the precision 1).");
        String[] dueByPrecision = {"12s-2", "120s-1", "1200s0", "12000s1", "120000s2", "120000s2", "120000s2"};
        for (int mode = 0; mode < 8; mode++) {
            for (int i = 0; i < dueByPrecision.length; i++) {
                BOUNDS.gives("round to " + (2 + i), rounded(2 + i, mode), dueByPrecision[i], "1200.00");
                BOUNDS.gives("quotient to " + (2 + i), quotient(2 + i, mode), dueByPrecision[i], "3600.00", "3");
            }
        }
        BOUNDS.gives("quotient, the wish too small", quotient(9, 7), "125s3", "1", "8");
        BOUNDS.gives("quotient, the wish too small", quotient(3, 7), "125s3", "1", "8");
        BOUNDS.gives("quotient, the wish too great", quotient(1, 7), "2s-2", "200", "1");
        String three = "3." + "0".repeat(999);
        BOUNDS.gives("quotient, just the wish", quotient(1000, 7), TEN_TO_999 + "s999", three, "3");
        BOUNDS.gives("quotient, one less", quotient(999, 7), "1" + "0".repeat(998) + "s998", three, "3");
        BOUNDS.gives("root, the wish too small", rooted(2, 7), "15s1", "225e-2");
        BOUNDS.gives("root, just the wish", rooted(3, 7), "150s2", "2.2500");
        BOUNDS.gives("root, the wish too great", rooted(2, 7), "15s1", "2.2500");
        int[] precisions = {1, 2, 1000};
        for (int precision : precisions) {
            BOUNDS.gives("round 0", rounded(precision, 7), "0s3", "0.000");
            BOUNDS.gives("round 0", rounded(precision, 7), "0s-10000", "0e10000");
            BOUNDS.gives("quotient of 0", quotient(precision, 7), "0s3", "0.000", "7");
            BOUNDS.gives("quotient of 0", quotient(precision, 7), "0s-3", "0", "-7.000");
            BOUNDS.gives("quotient of 0", quotient(precision, 7), "0s10000", "0e-5000", "3e5000");
            BOUNDS.gives("root of 0", rooted(precision, 7), "0s5000", "0e-10000");
        }
    }

    private static void toPrecisionRounded() {
        BOUNDS.sentence("Terms", "Otherwise with the greatest t for which x times 10 to the t is below 10 to the p in "
                + "size: x to the scale t, if that has the precision p;");
        BOUNDS.gives("round 10.01 to 1", rounded(1, 1), "1s-1", "10.01");
        BOUNDS.gives("round 10.01 to 1", rounded(1, 0), "2s-1", "10.01");
        BOUNDS.gives("round 9.99 to 1", rounded(1, 1), "9s0", "9.99");
        BOUNDS.gives("round 100.01 to 3", rounded(3, 1), "100s0", "100.01");
        BOUNDS.gives("round 99.99 to 3", rounded(3, 1), "999s1", "99.99");
        BOUNDS.gives("quotient 1/3", quotient(1, 1), "3s1", "1", "3");
        BOUNDS.gives("quotient 10/3", quotient(1, 1), "3s0", "10", "3");
        BOUNDS.gives("quotient 1/30", quotient(3, 0), "334s4", "1", "30");
        BOUNDS.gives("quotient -1/7", quotient(1000, 3), "-" + seventh() + "s1000", "-1", "7");
        BOUNDS.gives("root of 99", rooted(1, 1), "9s0", "99");
        BOUNDS.gives("root of 101", rooted(1, 1), "1s-1", "101");
        BOUNDS.gives("root of 0.99", rooted(1, 1), "9s1", "0.99");
        BOUNDS.gives("root of 2", rooted(1, 1), "1s0", "2");
        BOUNDS.sentence("Terms", "if it has p + 1, its number being a power of ten, that divided by 10 with the scale "
                + "t - 1.");
        BOUNDS.gives("round 9.5 to 1", rounded(1, 4), "1s-1", "9.5");
        BOUNDS.gives("round -99.95 to 3", rounded(3, 4), "-100s0", "-99.95");
        BOUNDS.gives("round 0.09999 to 3", rounded(3, 2), "100s3", "0.09999");
        BOUNDS.gives("round to 999", rounded(999, 0), TEN_TO_999.substring(0, 999) + "s-2", NINES);
        BOUNDS.gives("quotient", quotient(5, 4), "10000s-1", "299999", "3");
        BOUNDS.gives("quotient", quotient(999, 0), "1" + "0".repeat(998) + "s998", NINES.substring(1) + "8", NINES);
        BOUNDS.gives("root of 99", rooted(1, 0), "1s-1", "99");
        BOUNDS.gives("root", rooted(3, 4), "100s-498", NINES);
        BOUNDS.gives("into the last scale", quotient(1, 4), "1s10000", "96e-10000", "1e2");
        BOUNDS.arithmetic("out of the last scale", quotient(1, 4), "96e9999", "1");
    }

    /** A seventh's 1000 digits, away from 0. */
    private static String seventh() {
        return BigInteger.TEN.pow(1000).divide(BigInteger.valueOf(7)).add(BigInteger.ONE).toString();
    }

    private static void scalesOfAnySize() {
        BOUNDS.sentence("Terms", "(Scales are any integers here, and where a least or nearest one is asked for below; "
                + "a register must then be able to have the one that is found.)");
        // The wish is 10001, which 10e-10001 has; with one digit only 1e-10000 is there to be found.
        BOUNDS.arithmetic("the nearest scale is 10001", quotient(2, 4), "10e-10000", "1e1");
        BOUNDS.gives("the nearest scale is 10000", quotient(1, 4), "1s10000", "10e-10000", "1e1");
        BOUNDS.arithmetic("the nearest scale is 20000", quotient(1000, 4), "0e-10000", "1e10000");
        BOUNDS.arithmetic("the nearest scale is -20000", quotient(1, 4), "0e10000", "1e-10000");
        BOUNDS.arithmetic("the nearest scale is -20000", quotient(1, 4), "6e10000", "2e-10000");
        BOUNDS.arithmetic("the least scale is -10001", quotient(0, 4), "1e10000", "0.1");
        BOUNDS.gives("the least scale is -9998", quotient(0, 4), "125s-9998", "1e10000", "0.8");
        BOUNDS.gives("the nearest scale is -9998", quotient(3, 7), "125s-9998", "1e10000", "0.8");
        BOUNDS.arithmetic("exactly 0 with 10001", quotient(0, 4), "0e-10000", "1e1");
        BOUNDS.arithmetic("the only scale is -10001", rounded(1, 7), "10e10000");
        BOUNDS.gives("the nearest scale is -10000", rounded(2, 7), "10s-10000", "10e10000");
        BOUNDS.arithmetic("the least scale is -10002", desk -> desk.strip(A, TO), "1200e10000");
    }
}
