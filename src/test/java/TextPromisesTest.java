import java.math.BigInteger;

/** Promises 1 to 5, 20 and 21: the new object, the draft, what is read and put, what is written. */
public final class TextPromisesTest {
    private static final Check CHECK = new Check();

    private TextPromisesTest() {
    }

    public static void main(String[] args) {
        newObject();
        write();
        wipe();
        readNumberTexts();
        readRefuses();
        readToTheLimits();
        put();
        writtenKind0();
        writtenKind1();
        writtenKind2();
        writtenLong();
        writtenOfEveryLength();
        character();
        CHECK.finish();
    }

    private static void newObject() {
        DecimalDesk desk = new DecimalDesk();
        for (int i = 0; i < 10; i++) {
            CHECK.due("new: register " + i, Check.told(desk, i), "0s0");
        }
        CHECK.due("new: character(0)", desk.character(0), DecimalDesk.NONE);
        CHECK.due("new: wipe()", desk.wipe(), 0);
        CHECK.due("NONE", DecimalDesk.NONE, -1);
    }

    private static void write() {
        DecimalDesk desk = new DecimalDesk();
        CHECK.due("write nothing", desk.write(0L), 0);
        CHECK.due("write eight", desk.write(0x3837363534333231L), 8);
        CHECK.due("write with bytes 0 between", desk.write(0x3100000000002E00L), 10);
        desk.read(0);
        CHECK.due("the lowest byte first", Check.told(desk, 0), "123456781s1");
        CHECK.due("behind read the draft is empty", desk.write(-1L), 8);
        CHECK.refused(desk, "characters above 127 are characters", () -> desk.read(0), IllegalStateException.class);
        desk.wipe();
        CHECK.due("1096 fit", Check.draft(desk, Check.repeat("1", 1096)), 1096);
        CHECK.due("five more do not", desk.write(0x3131313131L), DecimalDesk.NONE);
        CHECK.due("nothing was added", desk.write(0L), 1096);
        CHECK.due("four more fit", desk.write(0x0031003100310031L), 1100);
        CHECK.due("not one more", desk.write(0x3100000000000000L), DecimalDesk.NONE);
        CHECK.due("none more always fits", desk.write(0L), 1100);
        CHECK.due("wipe 1100", desk.wipe(), 1100);
    }

    private static void wipe() {
        DecimalDesk desk = new DecimalDesk();
        Check.draft(desk, "12345");
        CHECK.due("wipe", desk.wipe(), 5);
        CHECK.due("wipe again", desk.wipe(), 0);
        Check.draft(desk, "7");
        desk.read(1);
        CHECK.due("a wiped draft does not come back", Check.told(desk, 1), "7s0");
        CHECK.due("wipe behind read", desk.wipe(), 0);
    }

    private static void said(String text, String due) {
        DecimalDesk desk = new DecimalDesk();
        desk.put(4, 77, 3);
        Check.draft(desk, text);
        CHECK.due("read " + text, Check.thrown(() -> desk.read(4)), "");
        CHECK.due("read " + text, Check.told(desk, 4), due);
        CHECK.due("the draft behind " + text, desk.wipe(), 0);
    }

    private static void readNumberTexts() {
        said("0", "0s0");
        said("-0", "0s0");
        said("+12", "12s0");
        said("-12", "-12s0");
        said("1.25", "125s2");
        said(".5", "5s1");
        said("5.", "5s0");
        said("-.5", "-5s1");
        said("00012.3400", "123400s4");
        said("0.000", "0s3");
        said("1e5", "1s-5");
        said("1E+5", "1s-5");
        said("1E-5", "1s5");
        said("1.5e3", "15s-2");
        said("5.e2", "5s-2");
        said(".5e-2", "5s3");
        said("0e7", "0s-7");
        said("9e0000000012", "9s-12");
        said("-1.e-0", "-1s0");
        said("999999999", "999999999s0");
        said("1000000000", "1000000000s0");
        said("123456789012345678901234567890", "123456789012345678901234567890s0");
    }

    private static void notSaid(String text) {
        DecimalDesk desk = Check.desk("1.5", "22");
        Check.draft(desk, text);
        CHECK.refused(desk, "read " + text, () -> desk.read(1), IllegalStateException.class);
        CHECK.due("the draft behind " + text, desk.wipe(), text.length());
    }

    private static void readRefuses() {
        String[] texts = {
            "", "+", "-", ".", "+.", "e5", ".e5", "1e", "1e+", "1e-", "1.2.3", "..1", "1..", "--1", "+-1", "1-", "1+1",
            " 1", "1 ", "1e5.", "1e5e5", "1e+-5", "1e12345678901", "1e00000000001", "1x", "x", "1,5", "0x10", "1e5 ",
            "1E 5", "/", ":", "1/", "1:", "1e/", "1e:", "\u00b2", "1f", "NaN", "1e1.5", "-e1", "1e-"
        };
        for (String text : texts) {
            notSaid(text);
        }
        notSaid(Check.repeat("1", 1099) + "e");
        notSaid(Check.repeat("1", 1098) + "e-");
        notSaid(Check.repeat("1", 1098) + "e.");
        notSaid(Check.repeat(".", 1100));
        DecimalDesk desk = new DecimalDesk();
        Check.draft(desk, "x");
        CHECK.illegal(desk, "the register comes first", () -> desk.read(10));
        CHECK.illegal(desk, "the register comes first", () -> desk.read(-1));
    }

    private static void readToTheLimits() {
        said("1e-10000", "1s10000");
        said("1e10000", "1s-10000");
        said("0.1e-9999", "1s10000");
        said(Check.repeat("9", 1000), Check.repeat("9", 1000) + "s0");
        said(Check.repeat("0", 99) + "1" + Check.repeat("0", 999) + ".", "1" + Check.repeat("0", 999) + "s0");
        said(Check.repeat("0", 1100), "0s0");
        said("." + Check.repeat("0", 99) + Check.repeat("8", 1000), Check.repeat("8", 1000) + "s1099");
        String[] texts = {
            "1e-10001", "1e10001", "0.1e-10000", "0e10001", "1e9999999999", "1e-9999999999", "0e-4294967296",
            "1e4294967296", Check.repeat("9", 1001), "1" + Check.repeat("0", 1000)
        };
        for (String text : texts) {
            DecimalDesk desk = Check.desk("1.5", "22");
            Check.draft(desk, text);
            CHECK.arithmetic(desk, "read " + text, () -> desk.read(0));
            CHECK.due("the draft behind " + text, desk.wipe(), text.length());
        }
    }

    private static void put() {
        DecimalDesk desk = new DecimalDesk();
        long[] numbers = {0, 1, -1, 999999999L, 1000000000L, -1000000000000000000L, Long.MAX_VALUE, Long.MIN_VALUE};
        for (long number : numbers) {
            desk.put(9, number, -3);
            CHECK.due("put " + number, Check.told(desk, 9), number + "s-3");
        }
        desk.put(0, 5, 10000);
        CHECK.due("put at 10000", Check.told(desk, 0), "5s10000");
        desk.put(0, 5, -10000);
        CHECK.due("put at -10000", Check.told(desk, 0), "5s-10000");
        int[] scales = {10001, -10001, Integer.MAX_VALUE, Integer.MIN_VALUE};
        for (int scale : scales) {
            CHECK.arithmetic(desk, "put at " + scale, () -> desk.put(0, 0, scale));
            CHECK.illegal(desk, "put into 10 at " + scale, () -> desk.put(10, 0, scale));
        }
        CHECK.illegal(desk, "put into -1", () -> desk.put(-1, 0, 0));
    }

    private static void writes(String number, int kind, String due) {
        DecimalDesk desk = Check.desk(number);
        CHECK.due("written " + number + " kind " + kind, Check.written(desk, 0, kind), due);
    }

    private static void writtenKind0() {
        writes("123", 0, "123");
        writes("-123", 0, "-123");
        writes("0", 0, "0");
        writes("1.23", 0, "1.23");
        writes("-12.3", 0, "-12.3");
        writes("0.123", 0, "0.123");
        writes("0.00", 0, "0.00");
        writes("0.000001", 0, "0.000001");
        writes("0.0000001", 0, "1E-7");
        writes("0.00000123", 0, "0.00000123");
        writes("0.000000123", 0, "1.23E-7");
        writes("0.000000", 0, "0.000000");
        writes("0.0000000", 0, "0E-7");
        writes("1e1", 0, "1E+1");
        writes("-123e3", 0, "-1.23E+5");
        writes("0e3", 0, "0E+3");
        writes("12e10000", 0, "1.2E+10001");
        writes("7e-10000", 0, "7E-10000");
    }

    private static void writtenKind1() {
        writes("123", 1, "123");
        writes("123e3", 1, "123000");
        writes("-1e1", 1, "-10");
        writes("0e3", 1, "0");
        writes("0e-3", 1, "0.000");
        writes("1.23", 1, "1.23");
        writes("-0.0000000123", 1, "-0.0000000123");
        writes("12.3e-2", 1, "0.123");
        writes("-1.5", 1, "-1.5");
        writes("0.5", 1, "0.5");
        writes("0.0", 1, "0.0");
    }

    private static void writtenKind2() {
        writes("123", 2, "123");
        writes("1.23", 2, "1.23");
        writes("0.000001", 2, "0.000001");
        writes("1e1", 2, "10");
        writes("1e2", 2, "100");
        writes("1e3", 2, "1E+3");
        writes("1e4", 2, "10E+3");
        writes("-1e5", 2, "-100E+3");
        writes("12e1", 2, "120");
        writes("1.23e4", 2, "12.3E+3");
        writes("1.23e5", 2, "123E+3");
        writes("1234e2", 2, "123.4E+3");
        writes("1234e3", 2, "1.234E+6");
        writes("0.0000001", 2, "100E-9");
        writes("0.00000001", 2, "10E-9");
        writes("0.000000001", 2, "1E-9");
        writes("-0.000000123", 2, "-123E-9");
        writes("0.0000001234", 2, "123.4E-9");
        writes("0e1", 2, "0.00E+3");
        writes("0e2", 2, "0.0E+3");
        writes("0e3", 2, "0E+3");
        writes("0e-7", 2, "0.0E-6");
        writes("0e-8", 2, "0.00E-6");
        writes("0e-9", 2, "0E-9");
        writes("0e-6", 2, "0.000000");
        writes("1e-10000", 2, "100E-10002");
        writes("0e-10000", 2, "0.0E-9999");
    }

    private static void writtenLong() {
        String digits = Check.repeat("1234567890", 100);
        writes("-" + digits + "e10000", 1, "-" + digits + Check.repeat("0", 10000));
        writes("-" + digits + "e-10000", 1, "-0." + Check.repeat("0", 9000) + digits);
        writes("-3e-10000", 1, "-0." + Check.repeat("0", 9999) + "3");
        writes("-" + digits, 0, "-" + digits);
        writes(digits + "e-1", 0, digits.substring(0, 999) + ".0");
        writes("-" + digits + "e-1006", 0, "-1." + digits.substring(1) + "E-7");
    }

    /** Round the length up to which texts stand in the short row. */
    private static void writtenOfEveryLength() {
        for (int zeros = 1050; zeros < 1130; zeros++) {
            writes("-7e" + zeros, 1, "-7" + Check.repeat("0", zeros));
            writes("-7e-" + zeros, 1, "-0." + Check.repeat("0", zeros - 1) + "7");
        }
        for (int digits = 1; digits <= 1000; digits += 37) {
            String number = Check.repeat("4", digits);
            writes("-" + number + "e-5", 1, Model.written(new Model.Dec(new BigInteger("-" + number), 5), 1));
            writes("-" + number + "e5", 2, Model.written(new Model.Dec(new BigInteger("-" + number), -5), 2));
        }
    }

    private static void character() {
        DecimalDesk desk = Check.desk("-1.5", "22");
        CHECK.due("written", desk.written(0, 0), 4);
        CHECK.due("character(0)", desk.character(0), (int) '-');
        CHECK.due("character(3)", desk.character(3), (int) '5');
        CHECK.due("character(4)", desk.character(4), DecimalDesk.NONE);
        CHECK.due("character(-1)", desk.character(-1), DecimalDesk.NONE);
        CHECK.due("character least", desk.character(Integer.MIN_VALUE), DecimalDesk.NONE);
        CHECK.due("character most", desk.character(Integer.MAX_VALUE), DecimalDesk.NONE);
        desk.put(0, 9, 0);
        CHECK.due("the text stays when the register changes", Check.lastWritten(desk), "-1.5");
        CHECK.illegal(desk, "kind 3", () -> desk.written(0, 3));
        CHECK.illegal(desk, "kind -1", () -> desk.written(0, -1));
        CHECK.illegal(desk, "written of 10", () -> desk.written(10, 0));
        CHECK.illegal(desk, "written of -1", () -> desk.written(-1, 0));
        desk.written(1, 1);
        CHECK.due("a shorter text in its place", Check.lastWritten(desk), "22");
    }
}
