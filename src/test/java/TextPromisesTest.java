import java.math.BigInteger;

/** Promises 2, 4, 20 and 21: what is read, and what is written. */
public final class TextPromisesTest {
    private static final Check CHECK = new Check();

    private TextPromisesTest() {
    }

    public static void main(String[] args) {
        Runnable[] parts = {
            TextPromisesTest::readNumberTexts, TextPromisesTest::writtenKind0, TextPromisesTest::writtenKind1,
            TextPromisesTest::writtenKind2, TextPromisesTest::writtenLong, TextPromisesTest::writtenOfEveryLength,
        };
        CHECK.run(parts);
    }

    private static void said(String text, String due) {
        DecimalDesk desk = new DecimalDesk();
        desk.put(4, 77, 3);
        Check.draft(desk, text);
        CHECK.due("read " + text, Check.thrown(() -> desk.read(4)), "");
        CHECK.holds("read " + text, desk, 4, due);
        CHECK.due("the draft behind " + text, desk.wipe(), 0);
    }

    private static void readNumberTexts() {
        said("0", "0s0");
        said("-0", "0s0");
        said("+12", "12s0");
        said("-12", "-12s0");
        said("1.25", "125s2");
        said(".5", "5s1");
        said("5.", "5s0");
        said("-.5", "-5s1");
        said("00012.3400", "123400s4");
        said("0.000", "0s3");
        said("1e5", "1s-5");
        said("1E+5", "1s-5");
        said("1E-5", "1s5");
        said("1.5e3", "15s-2");
        said("5.e2", "5s-2");
        said(".5e-2", "5s3");
        said("0e7", "0s-7");
        said("9e0000000012", "9s-12");
        said("-1.e-0", "-1s0");
        said("999999999", "999999999s0");
        said("1000000000", "1000000000s0");
        said("123456789012345678901234567890", "123456789012345678901234567890s0");
    }

    private static void writes(String number, int kind, String due) {
        CHECK.due("written" + Check.of(number) + " kind " + kind, Check.written(number, kind), due);
    }

    private static void writtenKind0() {
        writes("123", 0, "123");
        writes("-123", 0, "-123");
        writes("0", 0, "0");
        writes("1.23", 0, "1.23");
        writes("-12.3", 0, "-12.3");
        writes("0.123", 0, "0.123");
        writes("0.00", 0, "0.00");
        writes("0.000001", 0, "0.000001");
        writes("0.0000001", 0, "1E-7");
        writes("0.00000123", 0, "0.00000123");
        writes("0.000000123", 0, "1.23E-7");
        writes("0.000000", 0, "0.000000");
        writes("0.0000000", 0, "0E-7");
        writes("1e1", 0, "1E+1");
        writes("-123e3", 0, "-1.23E+5");
        writes("0e3", 0, "0E+3");
        writes("12e10000", 0, "1.2E+10001");
        writes("7e-10000", 0, "7E-10000");
    }

    private static void writtenKind1() {
        writes("123", 1, "123");
        writes("123e3", 1, "123000");
        writes("-1e1", 1, "-10");
        writes("0e3", 1, "0");
        writes("0e-3", 1, "0.000");
        writes("1.23", 1, "1.23");
        writes("-0.0000000123", 1, "-0.0000000123");
        writes("12.3e-2", 1, "0.123");
        writes("-1.5", 1, "-1.5");
        writes("0.5", 1, "0.5");
        writes("0.0", 1, "0.0");
    }

    private static void writtenKind2() {
        writes("123", 2, "123");
        writes("1.23", 2, "1.23");
        writes("0.000001", 2, "0.000001");
        writes("1e1", 2, "10");
        writes("1e2", 2, "100");
        writes("1e3", 2, "1E+3");
        writes("1e4", 2, "10E+3");
        writes("-1e5", 2, "-100E+3");
        writes("12e1", 2, "120");
        writes("1.23e4", 2, "12.3E+3");
        writes("1.23e5", 2, "123E+3");
        writes("1234e2", 2, "123.4E+3");
        writes("1234e3", 2, "1.234E+6");
        writes("0.0000001", 2, "100E-9");
        writes("0.00000001", 2, "10E-9");
        writes("0.000000001", 2, "1E-9");
        writes("-0.000000123", 2, "-123E-9");
        writes("0.0000001234", 2, "123.4E-9");
        writes("0e1", 2, "0.00E+3");
        writes("0e2", 2, "0.0E+3");
        writes("0e3", 2, "0E+3");
        writes("0e-7", 2, "0.0E-6");
        writes("0e-8", 2, "0.00E-6");
        writes("0e-9", 2, "0E-9");
        writes("0e-6", 2, "0.000000");
        writes("1e-10000", 2, "100E-10002");
        writes("0e-10000", 2, "0.0E-9999");
    }

    private static void writtenLong() {
        String digits = "1234567890".repeat(100);
        writes("-" + digits + "e10000", 1, "-" + digits + "0".repeat(10000));
        writes("-" + digits + "e-10000", 1, "-0." + "0".repeat(9000) + digits);
        writes("-3e-10000", 1, "-0." + "0".repeat(9999) + "3");
        writes("-" + digits, 0, "-" + digits);
        writes(digits + "e-1", 0, digits.substring(0, 999) + ".0");
        writes("-" + digits + "e-1006", 0, "-1." + digits.substring(1) + "E-7");
    }

    /** Round the length up to which texts stand in the short row. */
    private static void writtenOfEveryLength() {
        for (int zeros = 1050; zeros < 1130; zeros++) {
            writes("-7e" + zeros, 1, "-7" + "0".repeat(zeros));
            writes("-7e-" + zeros, 1, "-0." + "0".repeat(zeros - 1) + "7");
        }
        for (int digits = 1; digits <= 1000; digits += 37) {
            String number = "4".repeat(digits);
            writes("-" + number + "e-5", 1, Model.written(new Model.Dec(new BigInteger("-" + number), 5), 1));
            writes("-" + number + "e5", 2, Model.written(new Model.Dec(new BigInteger("-" + number), -5), 2));
        }
    }
}
