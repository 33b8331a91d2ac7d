import java.math.BigInteger;

/** Promises 6 to 12: add, multiply, divide, quotient, remainder, power and root. */
public final class ArithmeticPromisesTest {
    private static final Check CHECK = new Check();
    private static final String NINES = "9".repeat(1000);
    private static final String TEN_TO_999 = "1" + "0".repeat(999);

    private ArithmeticPromisesTest() {
    }

    public static void main(String[] args) {
        Runnable[] parts = {
            ArithmeticPromisesTest::add, ArithmeticPromisesTest::addAtTheLimits, ArithmeticPromisesTest::multiply,
            ArithmeticPromisesTest::divideByModes, ArithmeticPromisesTest::divideAtTheLimits,
            ArithmeticPromisesTest::beyondTheRoom, ArithmeticPromisesTest::quotient,
            ArithmeticPromisesTest::quotientExactly, ArithmeticPromisesTest::quotientAtTheLimits,
            ArithmeticPromisesTest::remainder, ArithmeticPromisesTest::power, ArithmeticPromisesTest::root,
            ArithmeticPromisesTest::rootByModes, ArithmeticPromisesTest::rootAtTheLimits,
            ArithmeticPromisesTest::intoItself,
        };
        CHECK.run(parts);
    }

    /** A call on the registers 0 and 1, into 2, that leaves those as they were. */
    private static void gives(String what, String a, String b, Check.Call call, String due) {
        DecimalDesk desk = Check.desk(a, b);
        what += Check.of(a, b);
        desk.shift(0, 3, 0);
        desk.shift(1, 4, 0);
        CHECK.due(what + " throws", Check.thrown(() -> call.on(desk)), "");
        CHECK.holds(what, desk, 2, due);
        for (int i = 0; i < 2; i++) {
            CHECK.due(what + " leaves " + i, desk.compare(i, 3 + i), 0);
            CHECK.due(what + " leaves the scale of " + i, desk.told(i, 1), desk.told(3 + i, 1));
        }
    }

    private static void fails(String what, String a, String b, Check.Call call) {
        CHECK.arithmetic(what, call, a, b, "7.25");
    }

    private static final Check.Call SUM = desk -> desk.add(0, 1, 2, false);
    private static final Check.Call LESS = desk -> desk.add(0, 1, 2, true);
    private static final Check.Call PRODUCT = desk -> desk.multiply(0, 1, 2);
    private static final Check.Call REST = desk -> desk.remainder(0, 1, 2);

    private static Check.Call divided(int scale, int mode) {
        return desk -> desk.divide(0, 1, 2, scale, mode);
    }

    private static Check.Call quotient(int precision, int mode) {
        return desk -> desk.quotient(0, 1, 2, precision, mode);
    }

    private static Check.Call raised(int n) {
        return desk -> desk.power(0, n, 2);
    }

    private static Check.Call rooted(int precision, int mode) {
        return desk -> desk.root(0, 2, precision, mode);
    }

    private static void add() {
        gives("add", "1.1", "2.205", SUM, "3305s3");
        gives("less", "1.1", "2.205", LESS, "-1105s3");
        gives("add", "1.50", "-1.5", SUM, "0s2");
        gives("less", "1.50", "1.5", LESS, "0s2");
        gives("add", "-7", "3", SUM, "-4s0");
        gives("add", "-7", "-3", SUM, "-10s0");
        gives("less", "-7", "-3", LESS, "-4s0");
        gives("less", "-3", "-7", LESS, "4s0");
        gives("less", "0", "0.0", LESS, "0s1");
        gives("less", "0", "5", LESS, "-5s0");
        gives("add", "5e3", "2", SUM, "5002s0");
        gives("add", "5e3", "2e2", SUM, "52s-2");
        gives("add", "999999999999999999", "1", SUM, "1000000000000000000s0");
        gives("less", "1000000000000000000", "1", LESS, "999999999999999999s0");
        gives("add", "0e-10000", "5e-9999", SUM, "50s10000");
        gives("add", "0e10000", "0e-10000", SUM, "0s10000");
    }

    private static void addAtTheLimits() {
        gives("less", "1e1000", NINES, LESS, "1s0");
        gives("add", "-" + NINES, "1e1000", SUM, "1s0");
        gives("add", "9e999", "9".repeat(999), SUM, NINES + "s0");
        fails("add", NINES, "1", SUM);
        fails("less", "-" + NINES, "1", LESS);
        fails("less", "1e1001", NINES, LESS);
        fails("add", "1e1000", "0", SUM);
        fails("add", "0", "1e1000", SUM);
        fails("add", "1e10000", "1e-10000", SUM);
        fails("less", "1e-10000", "1e10000", LESS);
        fails("add", "0e-10000", "1e10000", SUM);
    }

    private static void multiply() {
        gives("multiply", "1.5", "-2.25", PRODUCT, "-3375s3");
        gives("multiply", "-1.5", "-2", PRODUCT, "30s1");
        gives("multiply", "0.00", "-2.0", PRODUCT, "0s3");
        gives("multiply", "5e3", "2e-3", PRODUCT, "10s0");
        gives("multiply", "999999999", "999999999", PRODUCT, "999999998000000001s0");
        gives("multiply", "1e5000", "1e5000", PRODUCT, "1s-10000");
        gives("multiply", "1e-5000", "1e-5000", PRODUCT, "1s10000");
        gives("multiply", NINES, "1", PRODUCT, NINES + "s0");
        gives("multiply", "9".repeat(500), "9".repeat(500), PRODUCT,
                "9".repeat(499) + "8" + "0".repeat(499) + "1s0");
        fails("multiply", NINES, "2", PRODUCT);
        fails("multiply", NINES, NINES, PRODUCT);
        fails("multiply", "1e5000", "1e5001", PRODUCT);
        fails("multiply", "0e-5000", "1e-5001", PRODUCT);
    }

    private static void divideByModes() {
        // -2.5 -1.5 -1.1 0.5 1.1 1.5 1.6 2.5, in the order of the modes
        String[][] rows = {
            {"-25", "-3", "-2", "-2", "-3", "-3", "-2", "-2"},
            {"-15", "-2", "-1", "-1", "-2", "-2", "-1", "-2"},
            {"-11", "-2", "-1", "-1", "-2", "-1", "-1", "-1"},
            {"5", "1", "0", "1", "0", "1", "0", "0"},
            {"11", "2", "1", "2", "1", "1", "1", "1"},
            {"15", "2", "1", "2", "1", "2", "1", "2"},
            {"16", "2", "1", "2", "1", "2", "2", "2"},
            {"25", "3", "2", "3", "2", "3", "2", "2"},
        };
        for (String[] row : rows) {
            for (int mode = 0; mode < 7; mode++) {
                gives("divide mode " + mode, row[0], "10", divided(0, mode), row[1 + mode] + "s0");
                gives("divide mode " + mode, row[0] + "e4", "-10e-2", divided(-6, mode),
                        negated(swapped(row, mode)) + "s-6");
            }
            fails("divide mode 7", row[0], "10", divided(0, 7));
        }
    }

    /** The other sign swaps ceiling and floor alone. */
    private static String swapped(String[] row, int mode) {
        return row[1 + (mode == 2 ? 3 : mode == 3 ? 2 : mode)];
    }

    private static String negated(String number) {
        return number.equals("0") ? "0" : number.startsWith("-") ? number.substring(1) : "-" + number;
    }

    private static void divideAtTheLimits() {
        gives("divide", "1", "3", divided(5, 4), "33333s5");
        gives("divide", "-2", "3", divided(5, 4), "-66667s5");
        gives("divide", "1", "8", divided(3, 7), "125s3");
        gives("divide", "1", "8", divided(5, 7), "12500s5");
        gives("divide", "1", "7", divided(-3, 0), "1s-3");
        gives("divide", "-1", "7", divided(-10000, 3), "-1s-10000");
        gives("divide", "1", "7", divided(-10000, 1), "0s-10000");
        gives("divide", "0", "7", divided(9, 7), "0s9");
        gives("divide", "1e-10000", "1e10000", divided(10000, 0), "1s10000");
        gives("divide", "1e-10000", "-1e10000", divided(10000, 4), "0s10000");
        gives("divide", "5e-10000", "1e10000", divided(-10000, 2), "1s-10000");
        gives("divide", "1e10000", "1e10000", divided(999, 7), "1" + "0".repeat(999) + "s999");
        gives("divide", NINES, "1", divided(0, 7), NINES + "s0");
        gives("divide", "2e999", NINES + "e1", divided(1000, 1), "2" + "0".repeat(998) + "s1000");
        fails("divide", "1e10000", "1e10000", divided(1000, 7));
        fails("divide", "1e10000", "1e-10000", divided(10000, 1));
        fails("divide", NINES, "0.1", divided(0, 7));
        fails("divide", NINES, "1e1", divided(2, 0));
        gives("divide", NINES, "1e1", divided(0, 1), "9".repeat(999) + "s0");
        fails("divide", "1", "3", divided(5, 7));
        fails("divide", "1", "0", divided(5, 4));
        fails("divide", "0", "0.00", divided(0, 0));
        gives("divide", "9".repeat(999) + "5", "10", divided(0, 4), "1" + "0".repeat(999) + "s0");
        gives("divide", "5", "2", divided(0, 6), "2s0");
        gives("divide", "7", "2", divided(0, 6), "4s0");
        gives("divide", "500000000000000001", "1e18", divided(0, 5), "1s0");
        gives("divide", "499999999999999999", "1e18", divided(0, 4), "0s0");
    }

    /** From the last digits that a register can have to more than there is room for. */
    private static void beyondTheRoom() {
        for (int scale = 1000; scale < 2100; scale++) {
            beyondTheRoom(scale, scale < 2000 ? "" : "ArithmeticException");
        }
    }

    private static void beyondTheRoom(int scale, String smallQuotient) {
        DecimalDesk desk = Check.desk("-3", NINES);
        desk.put(3, 725, 2);
        desk.put(4, 0, scale);
        String refused = "ArithmeticException";
        String to = " to " + scale;
        CHECK.due("3 / 3" + to, Check.thrown(() -> desk.divide(0, 0, 3, scale, 0)), refused);
        CHECK.due("nines / 3" + to, Check.thrown(() -> desk.divide(1, 0, 3, scale, 0)), refused);
        CHECK.due("3" + to, Check.thrown(() -> desk.toScale(0, 3, scale, 7)), refused);
        CHECK.due("3 and 0 at " + scale, Check.thrown(() -> desk.add(0, 4, 3, false)), refused);
        CHECK.due("0 less 3 at " + scale, Check.thrown(() -> desk.add(4, 0, 3, true)), refused);
        CHECK.holds("all those changed nothing" + to, desk, 3, "725s2");
        CHECK.due("0 and 0 at " + scale, Check.thrown(() -> desk.add(2, 4, 5, true)), "");
        CHECK.holds("0 and 0 at " + scale, desk, 5, "0s" + scale);
        CHECK.due("3 / nines" + to, Check.thrown(() -> desk.divide(0, 1, 3, scale, 1)), smallQuotient);
    }

    private static void quotient() {
        gives("quotient", "1.2", "0.4", quotient(5, 6), "3s0");
        gives("quotient", "1.200", "0.4", quotient(5, 6), "300s2");
        gives("quotient", "1.200", "0.4", quotient(2, 6), "30s1");
        gives("quotient", "1.200", "0.4", quotient(1, 7), "3s0");
        gives("quotient", "1", "8", quotient(3, 7), "125s3");
        gives("quotient", "1", "8", quotient(2, 6), "12s2");
        gives("quotient", "1", "8", quotient(2, 4), "13s2");
        gives("quotient", "1", "3", quotient(4, 0), "3334s4");
        gives("quotient", "-1", "3", quotient(4, 2), "-3333s4");
        gives("quotient", "200", "1", quotient(1, 7), "2s-2");
        gives("quotient", "200", "1e-2", quotient(1, 7), "2s-4");
        gives("quotient", "600", "3e2", quotient(5, 0), "200s2");
        gives("quotient", "6e3", "3", quotient(5, 0), "2s-3");
        gives("quotient", "1e5", "4", quotient(5, 0), "25s-3");
        gives("quotient", "99995", "1", quotient(4, 4), "1000s-2");
        gives("quotient", "2", "3", quotient(1, 0), "7s1");
        gives("quotient", "299999", "3", quotient(5, 4), "10000s-1");
        gives("quotient", "299999", "3", quotient(6, 4), "999997s1");
        gives("quotient", "0.000", "7", quotient(5, 7), "0s3");
        gives("quotient", "0", "-7.00", quotient(5, 7), "0s-2");
        gives("quotient", "105", "100", quotient(2, 1), "10s1");
        gives("quotient", "105", "100", quotient(3, 1), "105s2");
        fails("quotient", "1", "3", quotient(5, 7));
        fails("quotient", "1", "8", quotient(2, 7));
        fails("quotient", "1", "0", quotient(5, 4));
        fails("quotient", "0", "0", quotient(0, 4));
    }

    private static void quotientExactly() {
        for (int mode = 0; mode < 8; mode++) {
            gives("exact quotient", "1", "8", quotient(0, mode), "125s3");
            gives("exact quotient", "-1.000000", "8", quotient(0, mode), "-125000s6");
            gives("exact quotient", "600", "3", quotient(0, mode), "200s0");
            gives("exact quotient", "1e5", "4", quotient(0, mode), "25s-3");
            gives("exact quotient", "0.0", "-4", quotient(0, mode), "0s1");
            gives("exact quotient", "3", "6", quotient(0, mode), "5s1");
            fails("exact quotient", "1", "3", quotient(0, mode));
        }
        gives("exact quotient", "1e999", "1", quotient(0, 7), "1s-999");
        gives("exact quotient", TEN_TO_999, "1", quotient(0, 7), TEN_TO_999 + "s0");
        BigInteger five = BigInteger.valueOf(5);
        gives("exact quotient", "1", BigInteger.TWO.pow(1430).toString(), quotient(0, 0), five.pow(1430) + "s1430");
        fails("exact quotient", "1", BigInteger.TWO.pow(1431).toString(), quotient(0, 0));
    }

    private static void quotientAtTheLimits() {
        gives("quotient", "1e-5000", "3e4999", quotient(1, 1), "3s10000");
        fails("quotient", "1e-5000", "3e5000", quotient(1, 1));
        fails("quotient", "1e-5000", "3e4999", quotient(2, 1));
        gives("quotient", "1e10000", "0.3", quotient(1, 1), "3s-10000");
        fails("quotient", "1e10000", "0.03", quotient(1, 1));
        gives("quotient", "1e10000", "0.03", quotient(2, 1), "33s-10000");
        fails("quotient", "1e10000", "0.1", quotient(5, 1));
        fails("quotient", "1e10000", "0.1", quotient(0, 1));
        fails("quotient", "0e-10000", "1e1", quotient(5, 1));
        fails("quotient", "0e10000", "0.1", quotient(0, 1));
        gives("quotient", "1", "3", quotient(1000, 1), "3".repeat(1000) + "s1000");
        gives("quotient", "2", "3", quotient(1000, 4), "6".repeat(999) + "7s1000");
        gives("quotient", "1", NINES, quotient(1000, 1), TEN_TO_999 + "s1999");
        gives("quotient", NINES, "1", quotient(1, 1), "9s-999");
        gives("quotient", NINES, "1", quotient(1, 0), "1s-1000");
    }

    private static void remainder() {
        gives("remainder", "7", "3", REST, "1s0");
        gives("remainder", "-7", "3", REST, "-1s0");
        gives("remainder", "7", "-3", REST, "1s0");
        gives("remainder", "-7", "-3", REST, "-1s0");
        gives("remainder", "7.5", "2", REST, "15s1");
        gives("remainder", "7", "2.50", REST, "200s2");
        gives("remainder", "1", "3", REST, "1s0");
        gives("remainder", "1.00", "1", REST, "0s2");
        gives("remainder", "6", "0.3", REST, "0s1");
        gives("remainder", "0.00", "7", REST, "0s2");
        gives("remainder", "0", "-7.000", REST, "0s3");
        gives("remainder", "5e3", "2e3", REST, "1s-3");
        gives("remainder", "5e3", "3e2", REST, "2s-2");
        gives("remainder", "123", "1e2", REST, "23s0");
        gives("remainder", "123", "1e3", REST, "123s0");
        gives("remainder", "-1000", "1e3", REST, "0s0");
        gives("remainder", "999", "1e3", REST, "999s0");
        gives("remainder", "123456789012345678901234567890", "9876543210.123", REST,
                new BigInteger("123456789012345678901234567890000").mod(new BigInteger("9876543210123")) + "s3");
        gives("remainder", "1e10000", "7e-10000", REST, "2s10000");
        gives("remainder", "1e-10000", "-1e10000", REST, "1s10000");
        gives("remainder", "-1e10000", NINES + "e-10000", REST, "-1s10000");
        gives("remainder", "1e9999", NINES + "e-10000", REST, TEN_TO_999 + "s10000");
        fails("remainder", "1", "0", REST);
        fails("remainder", "0", "0.0", REST);
    }

    private static void power() {
        gives("power 2", "1.5", "0", raised(2), "225s2");
        gives("power 3", "-2", "0", raised(3), "-8s0");
        gives("power 4", "-2", "0", raised(4), "16s0");
        gives("power 0", "0.00", "0", raised(0), "1s0");
        gives("power 0", "-5.25", "0", raised(0), "1s0");
        gives("power 1", "-5.25", "0", raised(1), "-525s2");
        gives("power 3", "0.00", "0", raised(3), "0s6");
        gives("power 3", "2e3", "0", raised(3), "8s-9");
        gives("power 13", "13", "0", raised(13), BigInteger.valueOf(13).pow(13) + "s0");
        gives("power 999", "1e10", "0", raised(999), "1s-9990");
        gives("power 999", "-1", "0", raised(999), "-1s0");
        gives("power 999", "10", "0", raised(999), TEN_TO_999 + "s0");
        gives("power 999", "9", "0", raised(999), BigInteger.valueOf(9).pow(999) + "s0");
        gives("power 2", "1e5000", "0", raised(2), "1s-10000");
        gives("power 1", NINES, "0", raised(1), NINES + "s0");
        fails("power 2", NINES, "0", raised(2));
        fails("power 999", "11", "0", raised(999));
        fails("power 999", NINES, "0", raised(999));
        fails("power 2", "1e5001", "0", raised(2));
        fails("power 999", "0e-11", "0", raised(999));
    }

    private static void root() {
        gives("root", "4", "0", rooted(5, 7), "2s0");
        gives("root", "4.00", "0", rooted(5, 7), "20s1");
        gives("root", "4.00", "0", rooted(1, 7), "2s0");
        gives("root", "4.0", "0", rooted(5, 7), "2s0");
        gives("root", "400", "0", rooted(5, 7), "20s0");
        gives("root", "400", "0", rooted(1, 7), "2s-1");
        gives("root", "4e2", "0", rooted(5, 7), "2s-1");
        gives("root", "40e1", "0", rooted(5, 7), "2s-1");
        gives("root", "1e-3", "0", rooted(3, 1), "316s4");
        gives("root", "4e3", "0", rooted(4, 1), "6324s2");
        gives("root", "1", "0", rooted(1000, 7), "1s0");
        gives("root", "0.000", "0", rooted(5, 7), "0s1");
        gives("root", "0e3", "0", rooted(5, 7), "0s-2");
        gives("root", "-0", "0", rooted(5, 7), "0s0");
        gives("root", "2", "0", rooted(10, 1), "1414213562s9");
        gives("root", "0.0225", "0", rooted(2, 7), "15s2");
        gives("root", "152399025", "0", rooted(5, 7), "12345s0");
        fails("root", "2", "0", rooted(10, 7));
        fails("root", "0.0225", "0", rooted(1, 7));
        fails("root", "-4", "0", rooted(5, 4));
        fails("root", "-1e-10000", "0", rooted(5, 4));
    }

    private static void rootByModes() {
        // The roots of these: 0.15 and 0.25, just between two; 1.2 and something; 1.6 and something.
        String[][] rows = {
            {"0.0225", "2s1", "1s1", "2s1", "1s1", "2s1", "1s1", "2s1"},
            {"0.0625", "3s1", "2s1", "3s1", "2s1", "3s1", "2s1", "2s1"},
            {"1.5", "2s0", "1s0", "2s0", "1s0", "1s0", "1s0", "1s0"},
            {"2.7", "2s0", "1s0", "2s0", "1s0", "2s0", "2s0", "2s0"},
            {"0.022500000000000000000001", "2s1", "1s1", "2s1", "1s1", "2s1", "2s1", "2s1"},
            {"0.022499999999999999999999", "2s1", "1s1", "2s1", "1s1", "1s1", "1s1", "1s1"},
            {"99.9", "1s-1", "9s0", "1s-1", "9s0", "1s-1", "1s-1", "1s-1"},
        };
        for (String[] row : rows) {
            for (int mode = 0; mode < 7; mode++) {
                gives("root mode " + mode, row[0], "0", rooted(1, mode), row[1 + mode]);
            }
        }
    }

    private static void rootAtTheLimits() {
        gives("root", "1e10000", "0", rooted(1000, 7), "1s-5000");
        gives("root", "1e-10000", "0", rooted(1000, 7), "1s5000");
        BigInteger ten = BigInteger.TEN;
        gives("root", "2", "0", rooted(1000, 1), BigInteger.TWO.multiply(ten.pow(1998)).sqrt() + "s999");
        gives("root", "1e-9999", "0", rooted(1000, 1), ten.multiply(ten.pow(1998)).sqrt() + "s5999");
        gives("root", NINES, "0", rooted(3, 3), "999s-497");
        gives("root", NINES, "0", rooted(3, 4), "100s-498");
        gives("root", NINES, "0", rooted(1000, 1), NINES + "s500");
        BigInteger number = new BigInteger("314159265358979323".repeat(28).substring(0, 500));
        gives("root", number.multiply(number).toString(), "0", rooted(500, 7), number + "s0");
        gives("root", number.multiply(number).add(BigInteger.ONE).toString(), "0", rooted(500, 0),
                number.add(BigInteger.ONE) + "s0");
        gives("root", number.multiply(number).subtract(BigInteger.ONE).toString(), "0", rooted(500, 1),
                number.subtract(BigInteger.ONE) + "s0");
    }

    private static void intoItself() {
        DecimalDesk desk = Check.desk("-1.50");
        desk.add(0, 0, 0, false);
        CHECK.due("add to itself", Check.told(desk, 0), "-300s2");
        desk.multiply(0, 0, 0);
        CHECK.due("times itself", Check.told(desk, 0), "90000s4");
        desk.root(0, 0, 9, 4);
        CHECK.due("its root", Check.told(desk, 0), "300s2");
        desk.power(0, 3, 0);
        CHECK.due("its power", Check.told(desk, 0), "27000000s6");
        desk.quotient(0, 0, 0, 4, 4);
        CHECK.due("through itself", Check.told(desk, 0), "1s0");
        desk.divide(0, 0, 0, 2, 4);
        CHECK.due("through itself, to a scale", Check.told(desk, 0), "100s2");
        desk.remainder(0, 0, 0);
        CHECK.due("its remainder", Check.told(desk, 0), "0s2");
    }
}
