/** Promises 13 to 19: toScale, round, strip, shift, negate, compare and told. */
public final class RegisterPromisesTest {
    private static final Check CHECK = new Check();
    private static final String NINES = "9".repeat(1000);
    private static final String TEN_TO_999 = "1" + "0".repeat(999);

    private RegisterPromisesTest() {
    }

    public static void main(String[] args) {
        Runnable[] parts = {
            RegisterPromisesTest::toScaleByModes, RegisterPromisesTest::toScaleAtTheLimits,
            RegisterPromisesTest::roundByModes, RegisterPromisesTest::roundAtTheLimits, RegisterPromisesTest::strip,
            RegisterPromisesTest::shift, RegisterPromisesTest::negate, RegisterPromisesTest::compare,
            RegisterPromisesTest::told,
        };
        CHECK.run(parts);
    }

    /** A call on the register 0, into 1, that leaves that as it was. */
    private static void gives(String what, String a, Check.Call call, String due) {
        DecimalDesk desk = Check.desk(a);
        what += Check.of(a);
        desk.put(2, 1, 0);
        desk.multiply(0, 2, 3);
        CHECK.due(what + " throws", Check.thrown(() -> call.on(desk)), "");
        CHECK.holds(what, desk, 1, due);
        CHECK.due(what + " leaves a", desk.compare(0, 3), 0);
        CHECK.due(what + " leaves its scale", desk.told(0, 1), desk.told(3, 1));
    }

    private static void fails(String what, String a, Check.Call call) {
        CHECK.arithmetic(what, call, a, "7.25");
    }

    private static Check.Call scaled(int scale, int mode) {
        return desk -> desk.toScale(0, 1, scale, mode);
    }

    private static Check.Call rounded(int precision, int mode) {
        return desk -> desk.round(0, 1, precision, mode);
    }

    private static Check.Call shifted(int n) {
        return desk -> desk.shift(0, 1, n);
    }

    private static final Check.Call STRIPPED = desk -> desk.strip(0, 1);
    private static final Check.Call NEGATED = desk -> desk.negate(0, 1);

    private static void toScaleByModes() {
        String[][] rows = {
            {"5.5", "6", "5", "6", "5", "6", "5", "6"},
            {"2.5", "3", "2", "3", "2", "3", "2", "2"},
            {"1.6", "2", "1", "2", "1", "2", "2", "2"},
            {"1.1", "2", "1", "2", "1", "1", "1", "1"},
            {"1.0", "1", "1", "1", "1", "1", "1", "1"},
            {"-1.0", "-1", "-1", "-1", "-1", "-1", "-1", "-1"},
            {"-1.1", "-2", "-1", "-1", "-2", "-1", "-1", "-1"},
            {"-1.6", "-2", "-1", "-1", "-2", "-2", "-2", "-2"},
            {"-2.5", "-3", "-2", "-2", "-3", "-3", "-2", "-2"},
            {"-5.5", "-6", "-5", "-5", "-6", "-6", "-5", "-6"},
            {"0.5000000000000000001", "1", "0", "1", "0", "1", "1", "1"},
            {"0.4999999999999999999", "1", "0", "1", "0", "0", "0", "0"},
            {"-0.01", "-1", "0", "0", "-1", "0", "0", "0"},
            {"0.001", "1", "0", "1", "0", "0", "0", "0"},
        };
        for (String[] row : rows) {
            for (int mode = 0; mode < 7; mode++) {
                gives("toScale 0 mode " + mode, row[0], scaled(0, mode), row[1 + mode] + "s0");
            }
            if (row[0].endsWith(".0")) {
                gives("toScale 0 mode 7", row[0], scaled(0, 7), row[1] + "s0");
            } else {
                fails("toScale 0 mode 7", row[0], scaled(0, 7));
            }
        }
    }

    private static void toScaleAtTheLimits() {
        gives("toScale", "1.5", scaled(4, 7), "15000s4");
        gives("toScale", "15000", scaled(-3, 7), "15s-3");
        gives("toScale", "999.99", scaled(1, 4), "10000s1");
        gives("toScale", "-12345", scaled(-2, 1), "-123s-2");
        gives("toScale", "0", scaled(10000, 7), "0s10000");
        gives("toScale", "0e-10000", scaled(-10000, 7), "0s-10000");
        gives("toScale", "1e-10000", scaled(-10000, 2), "1s-10000");
        gives("toScale", "-9e-10000", scaled(-10000, 2), "0s-10000");
        gives("toScale", "1", scaled(999, 7), TEN_TO_999 + "s999");
        gives("toScale", NINES, scaled(-1, 4), TEN_TO_999 + "s-1");
        gives("toScale", NINES, scaled(-1000, 4), "1s-1000");
        gives("toScale", NINES, scaled(-1001, 4), "0s-1001");
        gives("toScale", "5e999", scaled(-1000, 6), "0s-1000");
        fails("toScale", "1", scaled(1000, 7));
        fails("toScale", NINES, scaled(1, 0));
        fails("toScale", "1e10000", scaled(10000, 0));
    }

    private static void roundByModes() {
        String[][] rows = {
            {"12.345", "1235s2", "1234s2", "1235s2", "1234s2", "1235s2", "1234s2", "1234s2"},
            {"-12.355", "-1236s2", "-1235s2", "-1235s2", "-1236s2", "-1236s2", "-1235s2", "-1236s2"},
            {"999951", "1000s-3", "9999s-2", "1000s-3", "9999s-2", "1000s-3", "1000s-3", "1000s-3"},
            {"-99995", "-1000s-2", "-9999s-1", "-9999s-1", "-1000s-2", "-1000s-2", "-9999s-1", "-1000s-2"},
        };
        for (String[] row : rows) {
            for (int mode = 0; mode < 7; mode++) {
                gives("round 4 mode " + mode, row[0], rounded(4, mode), row[1 + mode]);
            }
            fails("round 4 mode 7", row[0], rounded(4, 7));
        }
    }

    private static void roundAtTheLimits() {
        gives("round", "12.3000", rounded(9, 7), "123000s4");
        gives("round", "12.3000", rounded(6, 7), "123000s4");
        gives("round", "12.3000", rounded(5, 7), "12300s3");
        gives("round", "12.3000", rounded(3, 7), "123s1");
        gives("round", "1000", rounded(1, 7), "1s-3");
        gives("round", "0.000", rounded(1, 7), "0s3");
        gives("round", "0e10000", rounded(1000, 7), "0s-10000");
        gives("round", "1e-10000", rounded(1000, 7), "1s10000");
        gives("round", NINES, rounded(1000, 7), NINES + "s0");
        gives("round", NINES, rounded(999, 1), NINES.substring(1) + "s-1");
        gives("round", NINES, rounded(999, 4), TEN_TO_999.substring(0, 999) + "s-2");
        gives("round", "15e9999", rounded(1, 4), "2s-10000");
        fails("round", "15e10000", rounded(1, 4));
        fails("round", "95e9999", rounded(1, 4));
        fails("round", "10e10000", rounded(1, 7));
    }

    private static void strip() {
        gives("strip", "1.500", STRIPPED, "15s1");
        gives("strip", "-1500", STRIPPED, "-15s-2");
        gives("strip", "15", STRIPPED, "15s0");
        gives("strip", "0.000", STRIPPED, "0s0");
        gives("strip", "0e10000", STRIPPED, "0s0");
        gives("strip", "1000000000", STRIPPED, "1s-9");
        gives("strip", "1000000000000000000", STRIPPED, "1s-18");
        gives("strip", "100000000", STRIPPED, "1s-8");
        gives("strip", "100100000", STRIPPED, "1001s-5");
        gives("strip", TEN_TO_999, STRIPPED, "1s-999");
        gives("strip", "1e10000", STRIPPED, "1s-10000");
        gives("strip", "10e9999", STRIPPED, "1s-10000");
        fails("strip", "10e10000", STRIPPED);
    }

    private static void shift() {
        gives("shift", "1.5", shifted(3), "15s-2");
        gives("shift", "-1.5", shifted(-3), "-15s4");
        gives("shift", "0.0", shifted(5), "0s-4");
        gives("shift", "1e-10000", shifted(20000), "1s-10000");
        gives("shift", "1e10000", shifted(-20000), "1s10000");
        gives("shift", NINES, shifted(0), NINES + "s0");
        fails("shift", "1e-10000", shifted(20001));
        fails("shift", "1e10000", shifted(-20001));
        fails("shift", "0", shifted(10001));
        fails("shift", "0.1", shifted(Integer.MIN_VALUE));
        fails("shift", "1e1", shifted(Integer.MAX_VALUE));
        fails("shift", "1", shifted(Integer.MIN_VALUE));
    }

    private static void negate() {
        gives("negate", "1.50", NEGATED, "-150s2");
        gives("negate", "-1.50", NEGATED, "150s2");
        gives("negate", "0.00", NEGATED, "0s2");
        DecimalDesk desk = Check.desk("0", "5");
        desk.negate(0, 0);
        CHECK.due("the sign of 0 negated", desk.told(0, 0), 0);
        desk.negate(1, 1);
        CHECK.due("negate into itself", Check.told(desk, 1), "-5s0");
        desk.put(2, Long.MIN_VALUE, 0);
        desk.negate(2, 2);
        CHECK.due("negate the least long", Check.told(desk, 2), "9223372036854775808s0");
    }

    private static void compare() {
        // Each less than the next but for those in one row.
        String[][] rows = {
            {"-" + NINES + "e10000"}, {"-1e10000"}, {"-2.0000000001"}, {"-2", "-2.000", "-20e-1"}, {"-0.5", "-5e-1"},
            {"-1e-10000"}, {"0", "0.00", "0e10000", "0e-10000", "-0"}, {"1e-10000"}, {"0.1", "0.10"}, {"0.5"},
            {"1", "1.0"}, {"1.0000000000000000000000000001"}, {"9.99"}, {"10", "1e1", "10.0"}, {"11"},
            {"999999999"}, {"1e9", "1000000000"}, {NINES}, {"1e1000", "10e999", TEN_TO_999 + "e1"}, {"1e10000"},
            {NINES + "e10000"},
        };
        for (int i = 0; i < rows.length; i++) {
            for (int j = 0; j < rows.length; j++) {
                for (String a : rows[i]) {
                    for (String b : rows[j]) {
                        DecimalDesk desk = Check.desk(a, b);
                        CHECK.due("compare " + a + " with " + b, desk.compare(0, 1), Integer.compare(i, j));
                    }
                }
            }
        }
        DecimalDesk desk = Check.desk("3");
        CHECK.due("compare with itself", desk.compare(0, 0), 0);
    }

    private static void told() {
        int[] due = {-1, 2, 5, 1, 2, 0, 4, 5};
        DecimalDesk desk = Check.desk("-120.45");
        for (int what = 0; what < due.length; what++) {
            CHECK.due("told " + what, desk.told(0, what), due[what]);
        }
    }
}
