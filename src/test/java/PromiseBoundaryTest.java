import java.math.BigInteger;

/** The boundary cases that the promises name, sentence by sentence. */
public final class PromiseBoundaryTest {
    private static final Bounds BOUNDS = new Bounds();
    private static final String NINES = Bounds.NINES;
    private static final String TEN_TO_999 = Bounds.TEN_TO_999;
    private static final int A = Bounds.A;
    private static final int B = Bounds.B;
    private static final int TO = Bounds.TO;
    private static final int NONE = DecimalDesk.NONE;

    private static final int[] NO_SCALES = {10001, -10001, 65536, -65536, Bounds.LEAST, Bounds.MOST};
    private static final int[] NO_PRECISIONS = {-1, 1001, 65536 + 5, Bounds.LEAST, Bounds.MOST};

    private PromiseBoundaryTest() {
    }

    public static void main(String[] args) {
        Runnable[] parts = {
            PromiseBoundaryTest::newObject, PromiseBoundaryTest::write, PromiseBoundaryTest::writeFull,
            PromiseBoundaryTest::wipe, PromiseBoundaryTest::read, PromiseBoundaryTest::readRefused,
            PromiseBoundaryTest::put, PromiseBoundaryTest::add, PromiseBoundaryTest::multiply,
            PromiseBoundaryTest::divide, PromiseBoundaryTest::quotient, PromiseBoundaryTest::exactQuotient,
            PromiseBoundaryTest::remainder, PromiseBoundaryTest::power, PromiseBoundaryTest::root,
            PromiseBoundaryTest::toScale, PromiseBoundaryTest::round, PromiseBoundaryTest::strip,
            PromiseBoundaryTest::shift, PromiseBoundaryTest::negate, PromiseBoundaryTest::compare,
            PromiseBoundaryTest::told, PromiseBoundaryTest::written, PromiseBoundaryTest::character,
        };
        BOUNDS.run(parts);
    }

    private static void newObject() {
        BOUNDS.sentence("Promise 1", "All registers have 0; the draft and the written text are empty.");
        DecimalDesk used = Check.desk("1", "2", "3", "4", "5", "6", "7", "8", "9", "10");
        used.written(9, 0);
        Check.draft(used, "77");
        DecimalDesk desk = new DecimalDesk();
        for (int i = 0; i < 10; i++) {
            BOUNDS.holds("register " + i, desk, i, "0s0");
        }
        BOUNDS.due("character(0)", desk.character(0), NONE);
        BOUNDS.due("write(0)", desk.write(0L), 0);
        BOUNDS.due("wipe()", desk.wipe(), 0);
        BOUNDS.due("read(0)", Check.thrown(() -> desk.read(0)), "IllegalStateException");
        BOUNDS.due("the other object's draft", used.wipe(), 2);
        BOUNDS.due("the other object's text", Check.lastWritten(used), "10");
        BOUNDS.holds("the other object's register", used, 9, "10s0");
    }

    private static void write() {
        BOUNDS.sentence("Promise 2", "The characters in the eight bytes of a long, the lowest first, come behind the "
                + "draft, bytes 0 left out.");
        DecimalDesk desk = new DecimalDesk();
        BOUNDS.due("eight bytes 0", desk.write(0L), 0);
        BOUNDS.due("the lowest byte", desk.write(0x31L), 1);
        BOUNDS.due("the highest byte", desk.write(0x3200000000000000L), 2);
        BOUNDS.due("bytes 0 between", desk.write(0x0034000033000000L), 4);
        BOUNDS.due("bytes 0 on both sides", desk.write(0x0000000035000000L), 5);
        BOUNDS.due("eight bytes", desk.write(0x3938373635343332L), 13);
        desk.read(TO);
        BOUNDS.holds("what was written", desk, TO, "1234523456789s0");
        BOUNDS.due("bytes above 127", desk.write(0x80FFL), 2);
        BOUNDS.due("eight bytes 255", desk.write(-1L), 10);
        BOUNDS.due("the highest byte 128", desk.write(Long.MIN_VALUE), 11);
        BOUNDS.due("they are no digits", Check.thrown(() -> desk.read(TO)), "IllegalStateException");
        desk.wipe();
        desk.write(0x31L);
        desk.write(0xB1L);
        BOUNDS.due("nor is a digit's byte with 128 more", Check.thrown(() -> desk.read(TO)), "IllegalStateException");
    }

    private static void writeFull() {
        BOUNDS.sentence("Promise 2", "Answers how many it has then; NONE, adding none, when there would be more than "
                + "1100.");
        for (int room = 0; room < 8; room++) {
            String before = "0".repeat(100 - room) + NINES;
            int count = before.length();
            DecimalDesk desk = new DecimalDesk();
            BOUNDS.due(count + " characters", Check.draft(desk, before), count);
            BOUNDS.due("eight more", desk.write(0x3131313131313131L), NONE);
            BOUNDS.due("one more than fit", desk.write(ones(room + 1)), NONE);
            BOUNDS.due("so many of high bytes", desk.write(ones(room + 1) << 8 * (7 - room)), NONE);
            BOUNDS.due("none more", desk.write(0L), count);
            BOUNDS.due("refused ones are not there", desk.wipe(), count);
            Check.draft(desk, before);
            desk.write(ones(room + 1));
            desk.read(TO);
            BOUNDS.holds("the draft behind NONE", desk, TO, NINES + "s0");
        }
        for (int room = 0; room <= 8; room++) {
            DecimalDesk desk = new DecimalDesk();
            Check.draft(desk, "0".repeat(1100 - room));
            BOUNDS.due("just as many as fit", desk.write(ones(room) << 8 * (8 - room)), 1100);
            BOUNDS.due("not one more", desk.write(0x31L), NONE);
            BOUNDS.due("not one more, at the highest byte", desk.write(0x3100000000000000L), NONE);
            BOUNDS.due("none more", desk.write(0L), 1100);
            desk.read(TO);
            BOUNDS.holds("the full draft", desk, TO, room == 0 ? "0s0" : "1".repeat(room) + "s0");
            BOUNDS.due("room again", desk.write(0x31L), 1);
        }
    }

    private static long ones(int count) {
        return count == 0 ? 0 : 0x3131313131313131L >>> 8 * (8 - count);
    }

    private static void wipe() {
        BOUNDS.sentence("Promise 3", "The draft is empty then. Answers how many characters it had.");
        DecimalDesk desk = new DecimalDesk();
        BOUNDS.due("an empty draft", desk.wipe(), 0);
        desk.write(0x31003200L);
        BOUNDS.due("two characters", desk.wipe(), 2);
        BOUNDS.due("wiped before", desk.wipe(), 0);
        BOUNDS.due("nothing to read", Check.thrown(() -> desk.read(TO)), "IllegalStateException");
        BOUNDS.due("a full draft", Check.draft(desk, "1".repeat(1100)), 1100);
        BOUNDS.due("a full draft", desk.wipe(), 1100);
        BOUNDS.due("room again", desk.write(0x39L), 1);
        desk.read(TO);
        BOUNDS.holds("the wiped ones are gone", desk, TO, "9s0");
        BOUNDS.due("read before", desk.wipe(), 0);
    }

    private static void read() {
        BOUNDS.sentence("Promise 4", "A register gets the decimal that the draft says, and the draft is empty (by an "
                + "exception it stays).");
        DecimalDesk desk = new DecimalDesk();
        Check.draft(desk, "-1.50");
        desk.read(9);
        BOUNDS.holds("what was read", desk, 9, "-150s2");
        BOUNDS.due("the draft behind it", desk.write(0L), 0);
        BOUNDS.due("read again", Check.thrown(() -> desk.read(9)), "IllegalStateException");
        BOUNDS.holds("what was read before", desk, 9, "-150s2");
        Check.draft(desk, "1e");
        BOUNDS.due("read 1e", Check.thrown(() -> desk.read(0)), "IllegalStateException");
        BOUNDS.due("1e stays", Check.draft(desk, "5"), 3);
        BOUNDS.due("read 1e5 into 10", Check.thrown(() -> desk.read(10)), "IllegalArgumentException");
        desk.read(0);
        BOUNDS.holds("1e and 5", desk, 0, "1s-5");
        Check.draft(desk, "1e10001");
        BOUNDS.due("read 1e10001", Check.thrown(() -> desk.read(0)), "ArithmeticException");
        BOUNDS.due("read it again", Check.thrown(() -> desk.read(0)), "ArithmeticException");
        BOUNDS.due("it stays", desk.wipe(), 7);
        BOUNDS.holds("and so does the register", desk, 0, "1s-5");
    }

    private static void readRefused() {
        BOUNDS.sentence("Promise 4", "IllegalStateException: it is no number text.");
        String[] texts = {"", "-", ".", "1.2.3", "1e", "e1", "1e+", "1 ", "1e00000000000", "5x"};
        for (String text : texts) {
            BOUNDS.refusedWithDraft(text, "read " + text, IllegalStateException.class, desk -> desk.read(TO));
        }
        BOUNDS.sentence("Promise 4", "ArithmeticException as said.");
        String[] tooMuch = {"1e10001", "1e-10001", "0e9999999999", NINES + "0", "." + NINES + "0", "-1" + NINES};
        for (String text : tooMuch) {
            BOUNDS.refusedWithDraft(text, "read " + text, ArithmeticException.class, desk -> desk.read(TO));
        }
    }

    private static void put() {
        BOUNDS.sentence("Promise 5", "A register gets a number and a scale.");
        long[] numbers = {
            0, 1, -1, 9, 10, 999999999L, 1000000000L, -999999999999999999L, -1000000000000000000L,
            Integer.MIN_VALUE, 4294967296L, Long.MAX_VALUE, Long.MIN_VALUE, Long.MIN_VALUE + 1,
        };
        for (long number : numbers) {
            BOUNDS.gives("put " + number, desk -> desk.put(TO, number, -3), number + "s-3");
        }
        BOUNDS.gives("put behind another", desk -> {
            desk.put(TO, Long.MIN_VALUE, 10000);
            desk.put(TO, 0, 0);
        }, "0s0");
        BOUNDS.sentence("Promise 5", "ArithmeticException as said.");
        for (int scale : NO_SCALES) {
            BOUNDS.arithmetic("put at " + scale, desk -> desk.put(TO, 0, scale));
        }
        BOUNDS.gives("put at 10000", desk -> desk.put(TO, 1, 10000), "1s10000");
        BOUNDS.gives("put at -10000", desk -> desk.put(TO, 1, -10000), "1s-10000");
    }

    private static void add() {
        BOUNDS.sentence("Promise 6", "a and b, or a less b, exactly, with the greater one of their scales.");
        Bounds.Call sum = desk -> desk.add(A, B, TO, false);
        Bounds.Call less = desk -> desk.add(A, B, TO, true);
        BOUNDS.gives("add", sum, "0s2", "1.5", "-1.50");
        BOUNDS.gives("less", less, "0s2", "1.50", "1.5");
        BOUNDS.gives("add", sum, "0s10000", "0e10000", "0e-10000");
        BOUNDS.gives("less", less, "0s10000", "0e-10000", "0e10000");
        BOUNDS.gives("add", sum, "10s1", "1", "0.0");
        BOUNDS.gives("less", less, "-10s1", "0.0", "1");
        BOUNDS.gives("add", sum, "5s-3", "2e3", "3e3");
        BOUNDS.gives("add", sum, "203s-1", "2e3", "3e1");
        BOUNDS.gives("add", sum, "1000000000s0", "999999999", "1");
        BOUNDS.gives("add", sum, "1000000000000000000s0", "1", "999999999999999999");
        BOUNDS.gives("less", less, "999999999s0", "1000000000", "1");
        BOUNDS.gives("less", less, "-999999999999999999s0", "1", "1000000000000000000");
        BOUNDS.gives("less", less, "2000000002s0", "3000000003", "1000000001");
        BOUNDS.gives("less", less, "-4000000000s0", "1000000005", "5000000005");
        BOUNDS.gives("less", less, "999999999999999999s0", "1999999999999999999", "1000000000000000000");
        BOUNDS.gives("less", less, "-4s0", "-7", "-3");
        BOUNDS.gives("less", less, "4s0", "-3", "-7");
        BOUNDS.gives("less", less, "-10s0", "-7", "3");
        BOUNDS.gives("add the least longs", desk -> {
            desk.put(A, Long.MIN_VALUE, 0);
            desk.add(A, A, TO, false);
        }, "-18446744073709551616s0");
        BOUNDS.sentence("Promise 6", "ArithmeticException, here and below, as said above, and what else is named.");
        BOUNDS.gives("add", sum, NINES + "s0", "9" + "0".repeat(999), NINES.substring(1));
        BOUNDS.arithmetic("add", sum, "9" + "0".repeat(999), TEN_TO_999);
        BOUNDS.arithmetic("add", sum, NINES, "0.1");
        BOUNDS.arithmetic("less", less, "1e-10000", "1e10000");
    }

    private static void multiply() {
        BOUNDS.sentence("Promise 7", "a times b, exactly, with the sum of their scales.");
        Bounds.Call product = desk -> desk.multiply(A, B, TO);
        BOUNDS.gives("multiply", product, "0s3", "0.0", "-7.25");
        BOUNDS.gives("multiply", product, "0s0", "0e10000", "0e-10000");
        BOUNDS.gives("multiply", product, "500s2", "2.5", "2.0");
        BOUNDS.gives("multiply", product, "-6s0", "2e10000", "-3e-10000");
        BOUNDS.gives("multiply", product, "6s10000", "-2e-5000", "-3e-5000");
        BOUNDS.gives("multiply", product, "999999998000000001s0", "999999999", "999999999");
        BOUNDS.gives("multiply", product, BigInteger.TWO.pow(126) + "s0", BigInteger.TWO.pow(63) + "",
                BigInteger.TWO.pow(63) + "");
        BOUNDS.gives("multiply", product, "9".repeat(499) + "8" + "0".repeat(499) + "1s0", "9".repeat(500),
                "9".repeat(500));
        BOUNDS.arithmetic("multiply", product, "9".repeat(501), "9".repeat(500));
        BOUNDS.arithmetic("multiply", product, "1e-5000", "1e-5001");
        BOUNDS.arithmetic("multiply", product, "0e5001", "0e5000");
    }

    private static Bounds.Call divided(int scale, int mode) {
        return desk -> desk.divide(A, B, TO, scale, mode);
    }

    private static void divide() {
        BOUNDS.sentence("Promise 8", "a divided by b, to a scale.");
        BOUNDS.gives("divide", divided(5, 4), "-66667s5", "2", "-3");
        BOUNDS.gives("divide", divided(0, 7), NINES + "s0", NINES, "1");
        BOUNDS.gives("divide", divided(0, 7), "1s0", NINES, NINES);
        BOUNDS.gives("divide", divided(-1000, 0), "1s-1000", NINES, NINES);
        BOUNDS.gives("divide 0", divided(10000, 7), "0s10000", "0", "-7e10000");
        BOUNDS.gives("divide 0", divided(-10000, 7), "0s-10000", "0e-10000", "7");
        BOUNDS.gives("divide", divided(0, 4), "0s0", "1e-10000", NINES + "e10000");
        BOUNDS.sentence("Promise 8", "IllegalArgumentException, too: scale is not -10000 .. 10000.");
        for (int scale : NO_SCALES) {
            BOUNDS.illegal("divide to " + scale, divided(scale, 4), "6", "3");
            BOUNDS.illegal("divide 0 to " + scale, divided(scale, 4), "0", "3");
        }
        BOUNDS.gives("divide to 10000", divided(10000, 4), "2s10000", "6e-10000", "3");
        BOUNDS.gives("divide to -10000", divided(-10000, 4), "2s-10000", "6e10000", "3");
        BOUNDS.sentence("Promise 8", "ArithmeticException: b is 0.");
        String[] zeros = {"0", "-0", "0.000", "0e10000", "0e-10000"};
        for (String zero : zeros) {
            for (int mode = 0; mode < 8; mode++) {
                BOUNDS.arithmetic("divide", divided(3, mode), "6", zero);
                BOUNDS.arithmetic("divide", divided(3, mode), "0", zero);
            }
        }
    }

    private static Bounds.Call quotient(int precision, int mode) {
        return desk -> desk.quotient(A, B, TO, precision, mode);
    }

    private static void quotient() {
        BOUNDS.sentence("Promise 9", "a divided by b, to a precision, with the scale of a less that of b as the wish.");
        BOUNDS.gives("quotient", quotient(9, 4), "300s2", "1.200", "0.4");
        BOUNDS.gives("quotient", quotient(9, 4), "3s0", "1.2", "0.4");
        BOUNDS.gives("quotient", quotient(9, 4), "3s0", "12", "4");
        BOUNDS.gives("quotient", quotient(9, 4), "3s-3", "12", "0.004");
        BOUNDS.gives("quotient", quotient(1, 4), "3s0", "1.200", "0.4");
        BOUNDS.gives("quotient", quotient(9, 4), "125s3", "1", "8");
        BOUNDS.gives("quotient", quotient(9, 4), "0s-3", "0", "0.004");
        BOUNDS.gives("quotient", quotient(1000, 4), "6".repeat(999) + "7s1000", "2", "3");
        BOUNDS.gives("quotient", quotient(1, 0), "1s-1000", NINES, "1");
        BOUNDS.sentence("Promise 9", "IllegalArgumentException, too: precision is not 0 .. 1000.");
        for (int precision : NO_PRECISIONS) {
            BOUNDS.illegal("quotient to " + precision, quotient(precision, 4), "6", "3");
            BOUNDS.illegal("quotient of 0 to " + precision, quotient(precision, 4), "0", "3");
        }
        BOUNDS.gives("quotient to 1000", quotient(1000, 4), "2s0", "6", "3");
        BOUNDS.gives("quotient to 1", quotient(1, 4), "2s0", "6", "3");
        BOUNDS.gives("quotient to 0", quotient(0, 4), "2s0", "6", "3");
        BOUNDS.sentence("Promise 9", "ArithmeticException: b is 0;");
        String[] zeros = {"0", "-0.00", "0e10000", "0e-10000"};
        for (String zero : zeros) {
            for (int mode = 0; mode < 8; mode++) {
                BOUNDS.arithmetic("quotient", quotient(3, mode), "6", zero);
                BOUNDS.arithmetic("quotient", quotient(1000, mode), "0", zero);
                BOUNDS.arithmetic("exact quotient", quotient(0, mode), "6", zero);
                BOUNDS.arithmetic("exact quotient", quotient(0, mode), "0", zero);
            }
        }
    }

    private static void exactQuotient() {
        BigInteger two = BigInteger.TWO;
        BigInteger five = BigInteger.valueOf(5);
        for (int mode = 0; mode < 8; mode++) {
            BOUNDS.sentence("Promise 9", "For the precision 0 exactly: of the decimals of just that value the one with "
                    + "the least scale that is not below the wish (any mode).");
            BOUNDS.gives("the wish itself", quotient(0, mode), "-200s0", "-600", "3");
            BOUNDS.gives("the wish itself", quotient(0, mode), "12500s5", "1.00000", "8");
            BOUNDS.gives("the wish itself", quotient(0, mode), "125s3", "1.000", "8");
            BOUNDS.gives("above the wish", quotient(0, mode), "125s3", "1.00", "8");
            BOUNDS.gives("above the wish", quotient(0, mode), "125s3", "1", "8");
            BOUNDS.gives("above the wish", quotient(0, mode), "25s-3", "1e5", "4");
            BOUNDS.gives("0 has each scale", quotient(0, mode), "0s3", "0.000", "-7");
            BOUNDS.gives("0 has each scale", quotient(0, mode), "0s-3", "0", "-7.000");
            BOUNDS.gives("the longest", quotient(0, mode), five.pow(1430) + "s1430", "1", two.pow(1430) + "");
            BOUNDS.gives("the longest", quotient(0, mode), TEN_TO_999 + "s999", "7." + "0".repeat(999), "7");
            BOUNDS.sentence("Promise 9", "there is no decimal of just that value (for the precision 0).");
            BOUNDS.arithmetic("a third", quotient(0, mode), "1", "3");
            BOUNDS.arithmetic("a third", quotient(0, mode), NINES, NINES.substring(1) + "6");
            BOUNDS.arithmetic("a seventh of a power of ten", quotient(0, mode), TEN_TO_999, "7");
            BOUNDS.arithmetic("a power of ten by nines", quotient(0, mode), "1e10000", NINES);
            BOUNDS.arithmetic("one digit too long", quotient(0, mode), "1", two.pow(1431) + "");
        }
        BOUNDS.gives("a third, to a precision", quotient(1, 4), "3s1", "1", "3");
    }

    private static void remainder() {
        BOUNDS.sentence("Promise 10", "a less b times what a divided by b is, rounded to an integer by mode 1 (towards "
                + "0), with the greater one of the scales of a and b.");
        Bounds.Call rest = desk -> desk.remainder(A, B, TO);
        BOUNDS.gives("remainder", rest, "1s0", "7", "3");
        BOUNDS.gives("remainder", rest, "-1s0", "-7", "3");
        BOUNDS.gives("remainder", rest, "1s0", "7", "-3");
        BOUNDS.gives("remainder", rest, "-1s0", "-7", "-3");
        BOUNDS.gives("nothing left", rest, "0s0", "-6", "3");
        BOUNDS.gives("nothing left", rest, "0s3", "6.00", "0.003");
        BOUNDS.gives("all left", rest, "200s2", "2", "3.00");
        BOUNDS.gives("all left", rest, "-200s2", "-2.00", "3");
        BOUNDS.gives("just b", rest, "0s2", "3", "3.00");
        BOUNDS.gives("one less than b", rest, "299s2", "2.99", "3");
        BOUNDS.gives("one more than b", rest, "1s2", "3.01", "-3");
        BOUNDS.gives("of 0", rest, "0s3", "0", "-7.000");
        BOUNDS.gives("of 0", rest, "0s10000", "0e-10000", "7e10000");
        BOUNDS.gives("the scales below 0", rest, "1s-3", "5e3", "2e3");
        BOUNDS.gives("the scales 20000 apart", rest, "2s10000", "1e10000", "7e-10000");
        BOUNDS.gives("the scales 20000 apart", rest, "-1s10000", "-1e-10000", "7e10000");
        BOUNDS.gives("the scales 20000 apart", rest, "-1s10000", "-1e10000", NINES + "e-10000");
        BOUNDS.gives("b one digit longer", rest, NINES + "s0", NINES, "1e1000");
        BOUNDS.gives("b as long", rest, NINES.substring(1) + "s0", NINES, "1e999");
        BOUNDS.sentence("Promise 10", "ArithmeticException: b is 0.");
        String[] zeros = {"0", "-0", "0.00", "0e10000", "0e-10000"};
        for (String zero : zeros) {
            BOUNDS.arithmetic("remainder", rest, "7", zero);
            BOUNDS.arithmetic("remainder", rest, "0", zero);
            BOUNDS.arithmetic("remainder", rest, "-1e10000", zero);
        }
    }

    private static Bounds.Call raised(int n) {
        return desk -> desk.power(A, n, TO);
    }

    private static void power() {
        BOUNDS.sentence("Promise 11", "a to the power n, exactly, with n times its scale (for n 0 the number 1 with "
                + "the scale 0).");
        String[] numbers = {"0", "0.00", "0e10000", "-1.5", "1e-10000", "-" + NINES + "e10000"};
        for (String number : numbers) {
            BOUNDS.gives("power 0", raised(0), "1s0", number);
        }
        BOUNDS.gives("power 1", raised(1), "-150s2", "-1.50");
        BOUNDS.gives("power 1", raised(1), NINES + "s-10000", NINES + "e10000");
        BOUNDS.gives("power 2", raised(2), "22500s4", "-1.50");
        BOUNDS.gives("power 3", raised(3), "-3375000s6", "-1.50");
        BOUNDS.gives("power 3", raised(3), "0s6", "0.00");
        BOUNDS.gives("power 999", raised(999), "0s0", "0");
        BOUNDS.gives("power 999", raised(999), "0s9990", "0e-10");
        BOUNDS.gives("power 999", raised(999), "-1s-9990", "-1e10");
        BOUNDS.gives("power 998", raised(998), "1s-9980", "-1e10");
        BOUNDS.gives("power 999", raised(999), BigInteger.TWO.pow(999) + "s0", "2");
        BOUNDS.gives("power 999", raised(999), "-" + BigInteger.valueOf(9).pow(999) + "s999", "-0.9");
        BOUNDS.sentence("Promise 11", "IllegalArgumentException, too: n is not 0 .. 999.");
        int[] noPowers = {-1, -2, 1000, 1024, 65536, Bounds.LEAST, Bounds.MOST};
        for (int n : noPowers) {
            BOUNDS.illegal("power " + n, raised(n), "1");
            BOUNDS.illegal("power " + n, raised(n), "0");
            BOUNDS.illegal("power " + n, raised(n), NINES);
        }
        BOUNDS.gives("power 999", raised(999), "1s0", "1");
    }

    private static Bounds.Call rooted(int precision, int mode) {
        return desk -> desk.root(A, TO, precision, mode);
    }

    private static void root() {
        BOUNDS.sentence("Promise 12", "The square root of a, to a precision, with half the scale of a, rounded down "
                + "(to the next integer that is not greater), as the wish.");
        String[][] rows = {
            {"0", "0s0"}, {"0.0", "0s0"}, {"0.00", "0s1"}, {"0.000", "0s1"}, {"0e1", "0s-1"}, {"0e2", "0s-1"},
            {"0e3", "0s-2"}, {"0e-9999", "0s4999"}, {"0e-10000", "0s5000"}, {"0e9999", "0s-5000"},
            {"0e10000", "0s-5000"}, {"1", "1s0"}, {"4.0", "2s0"}, {"4.00", "20s1"}, {"4.000", "20s1"},
            {"4.0000", "200s2"}, {"400", "20s0"}, {"40e1", "2s-1"}, {"4e2", "2s-1"}, {"4000e-1", "20s0"},
            {"1e10000", "1s-5000"}, {"10e9999", "1s-5000"}, {"1e-10000", "1s5000"}, {"10e-9999", "1s4999"},
        };
        for (String[] row : rows) {
            BOUNDS.gives("root", rooted(1000, 7), row[1], row[0]);
        }
        BOUNDS.gives("root", rooted(1, 1), "1s0", "2");
        BOUNDS.gives("root", rooted(1000, 0), BigInteger.TWO.multiply(BigInteger.TEN.pow(1998)).sqrt()
                .add(BigInteger.ONE) + "s999", "2");
        BOUNDS.sentence("Promise 12", "IllegalArgumentException, too: precision is not 1 .. 1000.");
        int[] noPrecisions = {0, -1, 1001, 65537, Bounds.LEAST, Bounds.MOST};
        for (int precision : noPrecisions) {
            BOUNDS.illegal("root to " + precision, rooted(precision, 4), "4");
            BOUNDS.illegal("root of 0 to " + precision, rooted(precision, 4), "0");
        }
        BOUNDS.gives("root to 1", rooted(1, 4), "2s0", "4");
        BOUNDS.gives("root to 1000", rooted(1000, 4), "2s0", "4");
        BOUNDS.sentence("Promise 12", "ArithmeticException: a is below 0.");
        String[] numbers = {"-1", "-4.00", "-1e-10000", "-1e10000", "-" + NINES};
        for (String number : numbers) {
            for (int mode = 0; mode < 8; mode++) {
                BOUNDS.arithmetic("root", rooted(5, mode), number);
            }
        }
        BOUNDS.gives("root of -0", rooted(5, 7), "0s0", "-0");
    }

    private static Bounds.Call scaled(int scale, int mode) {
        return desk -> desk.toScale(A, TO, scale, mode);
    }

    private static void toScale() {
        BOUNDS.sentence("Promise 13", "a to a scale.");
        BOUNDS.gives("its own scale", scaled(2, 7), "-150s2", "-1.50");
        BOUNDS.gives("one more", scaled(3, 7), "-1500s3", "-1.50");
        BOUNDS.gives("one less", scaled(1, 7), "-15s1", "-1.50");
        BOUNDS.gives("two less", scaled(0, 6), "-2s0", "-1.50");
        BOUNDS.gives("far less", scaled(-10000, 4), "0s-10000", "-1.50");
        BOUNDS.gives("far less", scaled(-10000, 3), "-1s-10000", "-1.50");
        BOUNDS.gives("0 at any", scaled(10000, 7), "0s10000", "0e10000");
        BOUNDS.gives("0 at any", scaled(-10000, 7), "0s-10000", "0e-10000");
        BOUNDS.arithmetic("far more", scaled(10000, 4), "-1.50");
        BOUNDS.sentence("Promise 13", "IllegalArgumentException, too: scale is not -10000 .. 10000.");
        for (int scale : NO_SCALES) {
            BOUNDS.illegal("toScale " + scale, scaled(scale, 4), "1");
            BOUNDS.illegal("toScale " + scale, scaled(scale, 1), "0");
        }
        BOUNDS.gives("toScale 10000", scaled(10000, 4), "1s10000", "1e-10000");
        BOUNDS.gives("toScale -10000", scaled(-10000, 4), "1s-10000", "1e10000");
    }

    private static Bounds.Call rounded(int precision, int mode) {
        return desk -> desk.round(A, TO, precision, mode);
    }

    private static void round() {
        BOUNDS.sentence("Promise 14", "a to a precision, with its scale as the wish.");
        BOUNDS.gives("its own precision", rounded(3, 7), "-150s2", "-1.50");
        BOUNDS.gives("a greater one", rounded(1000, 7), "-150s2", "-1.50");
        BOUNDS.gives("one less", rounded(2, 7), "-15s1", "-1.50");
        BOUNDS.gives("two less", rounded(1, 6), "-2s0", "-1.50");
        BOUNDS.gives("0", rounded(1, 7), "0s2", "0.00");
        BOUNDS.gives("0", rounded(1000, 7), "0s-10000", "0e10000");
        BOUNDS.gives("carried", rounded(2, 4), "-10s0", "-9.95");
        BOUNDS.gives("carried", rounded(999, 4), "1" + "0".repeat(998) + "s-2", NINES);
        BOUNDS.sentence("Promise 14", "IllegalArgumentException, too: precision is not 1 .. 1000.");
        int[] noPrecisions = {0, -1, 1001, 65537, Bounds.LEAST, Bounds.MOST};
        for (int precision : noPrecisions) {
            BOUNDS.illegal("round to " + precision, rounded(precision, 4), "1.5");
            BOUNDS.illegal("round 0 to " + precision, rounded(precision, 4), "0");
        }
        BOUNDS.gives("round to 1", rounded(1, 1), "1s0", "1.5");
        BOUNDS.gives("round to 1000", rounded(1000, 1), "15s1", "1.5");
    }

    private static void strip() {
        Bounds.Call stripped = desk -> desk.strip(A, TO);
        BOUNDS.sentence("Promise 15", "a with the least scale that its value can have; 0 with the scale 0.");
        String[][] rows = {
            {"1.500", "15s1"}, {"-1500", "-15s-2"}, {"15", "15s0"}, {"1.5", "15s1"}, {"10.0", "1s-1"}, {"1e5", "1s-5"},
            {"100000000", "1s-8"}, {"1000000000", "1s-9"}, {"10000000000", "1s-10"}, {"1000000000000000000", "1s-18"},
            {"1000000001000000000", "1000000001s-9"}, {"0", "0s0"}, {"0.000", "0s0"}, {"0e10000", "0s0"},
            {"0e-10000", "0s0"}, {"-0e5", "0s0"}, {TEN_TO_999, "1s-999"}, {NINES, NINES + "s0"},
            {"10e-10000", "1s9999"}, {"1e-10000", "1s10000"}, {"1e10000", "1s-10000"},
        };
        for (String[] row : rows) {
            BOUNDS.gives("strip", stripped, row[1], row[0]);
        }
        BOUNDS.arithmetic("strip", stripped, "10e10000");
    }

    private static void shift() {
        BOUNDS.sentence("Promise 16", "a with n less for its scale (the value times 10 to the n).");
        Object[][] rows = {
            {"1.5", 0, "15s1"}, {"1.5", 1, "15s0"}, {"1.5", 2, "15s-1"}, {"-1.5", -2, "-15s3"}, {"0.0", 5, "0s-4"},
            {"1", 10000, "1s-10000"}, {"1", -10000, "1s10000"}, {"7e-10000", 20000, "7s-10000"},
            {"7e10000", -20000, "7s10000"}, {"0e10000", -20000, "0s10000"},
        };
        for (Object[] row : rows) {
            int n = (Integer) row[1];
            BOUNDS.gives("shift by " + n, desk -> desk.shift(A, TO, n), (String) row[2], (String) row[0]);
        }
        int[] tooFar = {
            10001, -10001, 65536, -65536, Bounds.LEAST, Bounds.LEAST + 10000, Bounds.MOST, Bounds.MOST - 9999,
        };
        for (int n : tooFar) {
            BOUNDS.arithmetic("shift by " + n, desk -> desk.shift(A, TO, n), "1");
            BOUNDS.arithmetic("shift by " + n, desk -> desk.shift(A, TO, n), "0");
        }
        int[] roundTheInts = {Bounds.LEAST, Bounds.MOST};
        String[] numbers = {"1e-10000", "1e10000", "1e-1", "1e1"};
        for (int n : roundTheInts) {
            for (String number : numbers) {
                BOUNDS.arithmetic("shift by " + n, desk -> desk.shift(A, TO, n), number);
            }
        }
    }

    private static void negate() {
        BOUNDS.sentence("Promise 17", "a with the other sign.");
        String[][] rows = {
            {"1.50", "-150s2"}, {"-1.50", "150s2"}, {"0", "0s0"}, {"0.00", "0s2"}, {"-0e10000", "0s-10000"},
            {"-" + NINES, NINES + "s0"}, {"-9223372036854775808", "9223372036854775808s0"},
        };
        for (String[] row : rows) {
            BOUNDS.gives("negate", desk -> desk.negate(A, TO), row[1], row[0]);
        }
        DecimalDesk desk = Check.desk("0.0", "-0");
        desk.negate(A, A);
        BOUNDS.due("0 has no other sign", desk.told(A, 0), 0);
        BOUNDS.due("0 negated is as 0", desk.compare(A, B), 0);
        BOUNDS.due("0 negated is written", desk.written(A, 0), 3);
        desk.put(2, 3, 0);
        desk.add(2, A, TO, true);
        BOUNDS.holds("less 0 negated", desk, TO, "30s1");
    }

    private static void compare() {
        BOUNDS.sentence("Promise 18", "-1, 0 or 1, as the value of a is less than, the same as, or greater than that "
                + "of b.");
        // Those of a row have the same value, and each row a greater one than the row before it.
        String[][] rows = {
            {"-" + NINES + "e10000"}, {"-1e10000", "-10e9999"}, {"-1.1"}, {"-1", "-1.0", "-" + TEN_TO_999 + "e-999"},
            {"-" + NINES + "e-1000"}, {"-2e-10000"}, {"-1e-10000"}, {"0", "-0", "0.000", "0e10000", "0e-10000"},
            {"1e-10000"}, {NINES + "e-10000"}, {"1e-9000"}, {"0.999999999"}, {NINES + "e-1000"},
            {"1", "1.0", TEN_TO_999 + "e-999"}, {"1.000000001"}, {"999999999"}, {"1000000000", "1e9"}, {NINES},
            {"1e1000", TEN_TO_999 + "e1"}, {"1e10000"}, {NINES.substring(1) + "8e10000"}, {NINES + "e10000"},
        };
        for (int i = 0; i < rows.length; i++) {
            for (int j = 0; j < rows.length; j++) {
                for (String a : rows[i]) {
                    String b = rows[j][rows[j].length - 1];
                    DecimalDesk desk = Check.desk(a, b);
                    BOUNDS.due("compare " + i + " with " + j, desk.compare(A, B), Integer.compare(i, j));
                    BOUNDS.due("compare " + j + " with " + i, desk.compare(B, A), Integer.compare(j, i));
                    BOUNDS.due("compare " + i + " with itself", desk.compare(A, A), 0);
                }
            }
        }
    }

    private static void told() {
        BOUNDS.sentence("Promise 19", "Of a register: the sign of its number, -1, 0 or 1 (what = 0), its scale (1), "
                + "its precision (2); the digit at place what - 3 of its number, from the highest one on (3 and "
                + "above).");
        asks("-120.45", -1, 2, 5, 1, 2, 0, 4, 5);
        asks("0", 0, 0, 1, 0);
        asks("-0.000", 0, 3, 1, 0);
        asks("7e10000", 1, -10000, 1, 7);
        asks("9000000001", 1, 0, 10, 9, 0, 0, 0, 0, 0, 0, 0, 0, 1);
        DecimalDesk desk = Check.desk("-8" + "9".repeat(998) + "7e-10000");
        BOUNDS.due("the scale", desk.told(A, 1), 10000);
        BOUNDS.due("the precision", desk.told(A, 2), 1000);
        BOUNDS.due("the first digit", desk.told(A, 3), 8);
        BOUNDS.due("the digit before the last", desk.told(A, 1001), 9);
        BOUNDS.due("the last digit", desk.told(A, 1002), 7);
        BOUNDS.sentence("Promise 19", "IndexOutOfBoundsException: what is below 0, or there is no such digit.");
        int[] never = {-1, -2, Bounds.LEAST, Bounds.LEAST + 2, Bounds.MOST, 1003};
        for (int what : never) {
            beyond("0", what);
            beyond("-120.45", what);
            beyond(NINES, what);
        }
        beyond("0", 4);
        beyond("0.000", 4);
        beyond("7e10000", 4);
        beyond("-120.45", 8);
        beyond("999999999", 12);
        beyond("1000000000", 13);
        beyond("9".repeat(999), 1002);
    }

    private static void asks(String number, int... due) {
        DecimalDesk desk = Check.desk(number);
        for (int what = 0; what < due.length; what++) {
            BOUNDS.due("told " + what + " of " + number, desk.told(A, what), due[what]);
        }
    }

    private static void beyond(String number, int what) {
        BOUNDS.refused("told " + what, IndexOutOfBoundsException.class, desk -> desk.told(A, what), number);
    }

    private static void written() {
        BOUNDS.sentence("Promise 20", "A register is written in a kind, 0 .. 2: how many characters that are.");
        Object[][] rows = {
            {"0", 1, 1, 1}, {"-1.5", 4, 4, 4}, {"1e1", 4, 2, 2}, {"0e1", 4, 1, 7}, {"1e-7", 4, 9, 6},
            {"-1e10000", 9, 10002, 9}, {"-1e-10000", 9, 10003, 11}, {"0e10000", 8, 1, 11},
            {"-" + NINES + "e10000", 1009, 11001, 1009}, {"-" + NINES + "e-10000", 1008, 10003, 1008},
        };
        for (Object[] row : rows) {
            for (int kind = 0; kind < 3; kind++) {
                DecimalDesk desk = Check.desk((String) row[0]);
                int length = (Integer) row[1 + kind];
                BOUNDS.due("written " + row[0] + " in kind " + kind, desk.written(A, kind), length);
                BOUNDS.due("its last character", desk.character(length - 1) != NONE, true);
                BOUNDS.due("the one behind that", desk.character(length), NONE);
            }
        }
        BOUNDS.sentence("Promise 20", "IllegalArgumentException, too: another kind.");
        int[] noKinds = {-1, 3, 4, 256, Bounds.LEAST, Bounds.MOST};
        for (int kind : noKinds) {
            BOUNDS.illegal("written in kind " + kind, desk -> desk.written(A, kind), "0");
            BOUNDS.illegal("written in kind " + kind, desk -> desk.written(A, kind), "-1.5e10000");
        }
    }

    private static void character() {
        BOUNDS.sentence("Promise 21", "Character i of what was written last; NONE when there is none.");
        DecimalDesk desk = Check.desk("-1.5e10000", "7", "0.25");
        int[] none = {-1, -2, Bounds.LEAST, Bounds.MOST, 1100, 20000};
        for (int i : none) {
            BOUNDS.due("character " + i + " of nothing", desk.character(i), NONE);
        }
        BOUNDS.due("character 0 of nothing", desk.character(0), NONE);
        desk.written(A, 1);
        BOUNDS.due("the first", desk.character(0), (int) '-');
        BOUNDS.due("the last", desk.character(10001), (int) '0');
        BOUNDS.due("behind the last", desk.character(10002), NONE);
        desk.written(B, 1);
        BOUNDS.due("the first of the next", desk.character(0), (int) '7');
        BOUNDS.due("one of those before", desk.character(1), NONE);
        BOUNDS.due("one of those before", desk.character(10001), NONE);
        for (int i : none) {
            BOUNDS.due("character " + i, desk.character(i), NONE);
        }
        desk.put(B, -88, 1);
        desk.wipe();
        BOUNDS.due("the register changes, the text does not", Check.lastWritten(desk), "7");
        BOUNDS.due("written of 10", Check.thrown(() -> desk.written(10, 0)), "IllegalArgumentException");
        BOUNDS.due("written in kind 3", Check.thrown(() -> desk.written(2, 3)), "IllegalArgumentException");
        BOUNDS.due("a refused one is not written", Check.lastWritten(desk), "7");
        desk.written(2, 0);
        BOUNDS.due("a longer one", Check.lastWritten(desk), "0.25");
        BOUNDS.due("the same again", Check.lastWritten(desk), "0.25");
    }
}
