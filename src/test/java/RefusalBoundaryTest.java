/** The last paragraph of the Terms: what is refused, by which exception, and that nothing changes. */
public final class RefusalBoundaryTest {
    private static final Bounds BOUNDS = new Bounds();
    private static final String NINES = Bounds.NINES;
    private static final int A = Bounds.A;
    private static final int B = Bounds.B;
    private static final int TO = Bounds.TO;

    /** Just outside, far outside, and where a narrower integer would come round to a good one. */
    private static final int[] NO_REGISTERS = {-1, 10, 11, 256, 65536, Bounds.LEAST, Bounds.MOST};
    private static final int[] NO_MODES = {-1, 8, 9, 256, 65536, Bounds.LEAST, Bounds.MOST};

    /** A call with three registers and a mode, of which it uses those that it has. */
    private interface Call {
        void on(DecimalDesk desk, int a, int b, int to, int mode);
    }

    private RefusalBoundaryTest() {
    }

    public static void main(String[] args) {
        Runnable[] parts = {
            RefusalBoundaryTest::noRegister, RefusalBoundaryTest::noMode, RefusalBoundaryTest::lastRegistersAndModes,
            RefusalBoundaryTest::firstNamedOfRead, RefusalBoundaryTest::firstNamed,
            RefusalBoundaryTest::nothingChanges,
        };
        BOUNDS.run(parts);
    }

    private static void outside() {
        BOUNDS.sentence("Terms", "Registers that are not 0 .. 9, and modes that are not 0 .. 7: "
                + "IllegalArgumentException, everywhere, tested first.");
    }

    private static void noRegister() {
        outside();
        into("read", (desk, a, b, to, mode) -> desk.read(to));
        into("put", (desk, a, b, to, mode) -> desk.put(to, 5, 0));
        into("put at 10001", (desk, a, b, to, mode) -> desk.put(to, 5, 10001));
        ofTwo("add", (desk, a, b, to, mode) -> desk.add(a, b, to, false));
        ofTwo("less", (desk, a, b, to, mode) -> desk.add(a, b, to, true));
        ofTwo("multiply", (desk, a, b, to, mode) -> desk.multiply(a, b, to));
        ofTwo("divide", (desk, a, b, to, mode) -> desk.divide(a, b, to, 3, mode));
        ofTwo("quotient", (desk, a, b, to, mode) -> desk.quotient(a, b, to, 3, mode));
        ofTwo("exact quotient", (desk, a, b, to, mode) -> desk.quotient(a, b, to, 0, mode));
        ofTwo("remainder", (desk, a, b, to, mode) -> desk.remainder(a, b, to));
        ofOne("power", (desk, a, b, to, mode) -> desk.power(a, 2, to));
        ofOne("power 0", (desk, a, b, to, mode) -> desk.power(a, 0, to));
        ofOne("root", (desk, a, b, to, mode) -> desk.root(a, to, 3, mode));
        ofOne("toScale", (desk, a, b, to, mode) -> desk.toScale(a, to, 3, mode));
        ofOne("round", (desk, a, b, to, mode) -> desk.round(a, to, 3, mode));
        ofOne("strip", (desk, a, b, to, mode) -> desk.strip(a, to));
        ofOne("shift", (desk, a, b, to, mode) -> desk.shift(a, to, 3));
        ofOne("negate", (desk, a, b, to, mode) -> desk.negate(a, to));
        into("compare a", (desk, a, b, to, mode) -> desk.compare(to, b));
        into("compare b", (desk, a, b, to, mode) -> desk.compare(a, to));
        for (int what = -1; what < 5; what++) {
            int asked = what;
            into("told " + what, (desk, a, b, to, mode) -> desk.told(to, asked));
        }
        for (int kind = -1; kind < 4; kind++) {
            int asked = kind;
            into("written " + kind, (desk, a, b, to, mode) -> desk.written(to, asked));
        }
    }

    private static void ofTwo(String what, Call call) {
        ofOne(what, call);
        into(what + " b", (desk, a, b, to, mode) -> call.on(desk, a, to, b, mode));
    }

    private static void ofOne(String what, Call call) {
        into(what + " to", call);
        into(what + " a", (desk, a, b, to, mode) -> call.on(desk, to, b, a, mode));
    }

    /** With numbers that would do, and with such as would have the call refused for themselves. */
    private static void into(String what, Call call) {
        for (int register : NO_REGISTERS) {
            Bounds.Call wrong = desk -> call.on(desk, A, B, register, 4);
            BOUNDS.illegal(what + " " + register, wrong, "12.5", "4");
            BOUNDS.illegal(what + " " + register, wrong, "-12.5e9999", "0");
        }
    }

    private static void noMode() {
        outside();
        byMode("divide", (desk, a, b, to, mode) -> desk.divide(a, b, to, 3, mode));
        byMode("quotient", (desk, a, b, to, mode) -> desk.quotient(a, b, to, 3, mode));
        byMode("exact quotient", (desk, a, b, to, mode) -> desk.quotient(a, b, to, 0, mode));
        byMode("root", (desk, a, b, to, mode) -> desk.root(a, to, 3, mode));
        byMode("toScale", (desk, a, b, to, mode) -> desk.toScale(a, to, 3, mode));
        byMode("round", (desk, a, b, to, mode) -> desk.round(a, to, 3, mode));
    }

    /** Where there is something to round, where there is nothing, and where the numbers are wrong too. */
    private static void byMode(String what, Call call) {
        for (int mode : NO_MODES) {
            Bounds.Call wrong = desk -> call.on(desk, A, B, TO, mode);
            BOUNDS.illegal(what + " mode " + mode, wrong, "1.23456", "7");
            BOUNDS.illegal(what + " mode " + mode, wrong, "4", "1");
            BOUNDS.illegal(what + " mode " + mode, wrong, "0", "1");
            BOUNDS.illegal(what + " mode " + mode, wrong, "-12.5e9999", "0");
        }
    }

    private static void lastRegistersAndModes() {
        outside();
        for (int mode = 0; mode < 8; mode += 7) {
            for (int r = 0; r < 10; r += 9) {
                DecimalDesk desk = new DecimalDesk();
                desk.put(r, 4, 0);
                desk.add(r, r, r, false);
                desk.multiply(r, r, r);
                desk.root(r, r, 1, mode);
                desk.divide(r, r, r, 1, mode);
                desk.quotient(r, r, r, 1, mode);
                desk.power(r, 1, r);
                desk.toScale(r, r, 2, mode);
                desk.round(r, r, 2, mode);
                desk.strip(r, r);
                desk.shift(r, r, 1);
                desk.negate(r, r);
                String what = "register " + r + ", mode " + mode;
                BOUNDS.due(what + " compared", desk.compare(r, 9 - r), -1);
                BOUNDS.due(what + " written", desk.written(r, 1), 3);
                BOUNDS.due(what + " written", Check.lastWritten(desk), "-10");
                BOUNDS.holds(what, desk, r, "-1s-1");
                desk.remainder(r, r, r);
                BOUNDS.holds(what + ", its remainder", desk, r, "0s-1");
                BOUNDS.holds("another than " + what, desk, 9 - r, "0s0");
            }
        }
    }

    private static void firstNamedOfAll() {
        BOUNDS.sentence("Terms", "Methods throw what their comments name, the one named first when several would do;");
    }

    private static void firstNamedOfRead() {
        firstNamedOfAll();
        String[] drafts = {"", "x", "1e", "1e10001", "1e-9999999999", NINES + "0"};
        for (String draft : drafts) {
            for (int register : NO_REGISTERS) {
                BOUNDS.refusedWithDraft(draft, "read into " + register, IllegalArgumentException.class,
                        desk -> desk.read(register));
            }
        }
        String[] noTexts = {"1e10001x", "1e99999.", "1e-10001e1", NINES + "0x", NINES + "0..", "1e12345678901"};
        for (String draft : noTexts) {
            BOUNDS.refusedWithDraft(draft, "read " + draft, IllegalStateException.class, desk -> desk.read(TO));
        }
    }

    private static void firstNamed() {
        firstNamedOfAll();
        BOUNDS.illegal("put into 10 at 10001", desk -> desk.put(10, 1, 10001));
        BOUNDS.illegal("add into 10, too long", desk -> desk.add(A, B, 10, false), NINES, NINES);
        BOUNDS.illegal("multiply into 10, too long", desk -> desk.multiply(A, B, 10), NINES, NINES);
        int[] noScales = {10001, -10001, Bounds.LEAST, Bounds.MOST};
        for (int scale : noScales) {
            BOUNDS.illegal("divide by 0 to " + scale, desk -> desk.divide(A, B, TO, scale, 4), "1", "0");
            BOUNDS.illegal("divide to " + scale + ", inexact", desk -> desk.divide(A, B, TO, scale, 7), "1", "3");
            BOUNDS.illegal("toScale " + scale + ", too long", desk -> desk.toScale(A, TO, scale, 7), NINES);
        }
        int[] noPrecisions = {-1, 1001, Bounds.LEAST, Bounds.MOST};
        for (int precision : noPrecisions) {
            BOUNDS.illegal("quotient by 0 to " + precision, desk -> desk.quotient(A, B, TO, precision, 4), "1", "0");
            BOUNDS.illegal("quotient to " + precision + ", none", desk -> desk.quotient(A, B, TO, precision, 7),
                    "1e10000", "3e-10000");
            BOUNDS.illegal("root below 0 to " + precision, desk -> desk.root(A, TO, precision, 7), "-2");
            BOUNDS.illegal("round to " + precision + ", none", desk -> desk.round(A, TO, precision, 7), "15e10000");
        }
        BOUNDS.illegal("root below 0 to 0", desk -> desk.root(A, TO, 0, 7), "-2");
        BOUNDS.illegal("round to 0", desk -> desk.round(A, TO, 0, 7), "15e10000");
        BOUNDS.illegal("power -1, too long", desk -> desk.power(A, -1, TO), NINES);
        BOUNDS.illegal("power 1000, too long", desk -> desk.power(A, 1000, TO), NINES + "e10000");
        BOUNDS.illegal("remainder by 0 into 10", desk -> desk.remainder(A, B, 10), "1", "0");
        BOUNDS.illegal("strip into 10, no such scale", desk -> desk.strip(A, 10), "10e10000");
        BOUNDS.illegal("shift into 10, no such scale", desk -> desk.shift(A, 10, Bounds.LEAST), "1");
        BOUNDS.illegal("told of 10, no such digit", desk -> desk.told(10, -1));
        BOUNDS.illegal("told of -1, no such digit", desk -> desk.told(-1, Bounds.MOST));
    }

    /** Refused late, when most is worked out, and into the very registers that the call works on. */
    private static void nothingChanges() {
        BOUNDS.sentence("Terms", "a call that throws changes nothing.");
        int[] targets = {A, B, TO};
        for (int to : targets) {
            BOUNDS.arithmetic("add into " + to, desk -> desk.add(A, B, to, false), NINES, "1");
            BOUNDS.arithmetic("less into " + to, desk -> desk.add(A, B, to, true), "1e-10000", "1e10000");
            BOUNDS.arithmetic("multiply into " + to, desk -> desk.multiply(A, B, to), NINES, "-2");
            BOUNDS.arithmetic("divide into " + to, desk -> desk.divide(A, B, to, 5, 7), "-1", "3");
            BOUNDS.arithmetic("divide by 0 into " + to, desk -> desk.divide(A, B, to, 5, 4), "-1", "0.0");
            BOUNDS.arithmetic("quotient into " + to, desk -> desk.quotient(A, B, to, 5, 7), "-1", "3");
            BOUNDS.arithmetic("quotient by 0 into " + to, desk -> desk.quotient(A, B, to, 0, 7), "-1", "0.0");
            BOUNDS.arithmetic("exact quotient into " + to, desk -> desk.quotient(A, B, to, 0, 4), "-1", "3");
            BOUNDS.arithmetic("remainder into " + to, desk -> desk.remainder(A, B, to), "-1.5", "0.0");
            BOUNDS.arithmetic("power into " + to, desk -> desk.power(A, 999, to), "-11", "2");
            BOUNDS.arithmetic("root into " + to, desk -> desk.root(A, to, 1000, 7), "2", "2");
            BOUNDS.arithmetic("root below 0 into " + to, desk -> desk.root(A, to, 5, 4), "-4", "2");
            BOUNDS.arithmetic("toScale into " + to, desk -> desk.toScale(A, to, 1, 7), "-1.25", "2");
            BOUNDS.arithmetic("toScale into " + to, desk -> desk.toScale(A, to, 10000, 4), "-1.25", "2");
            BOUNDS.arithmetic("round into " + to, desk -> desk.round(A, to, 2, 7), "-1.25", "2");
            BOUNDS.arithmetic("round into " + to, desk -> desk.round(A, to, 1, 0), "99e9999", "2");
            BOUNDS.arithmetic("strip into " + to, desk -> desk.strip(A, to), "-10e10000", "2");
            BOUNDS.arithmetic("shift into " + to, desk -> desk.shift(A, to, 20001), "-1e-10000", "2");
            BOUNDS.arithmetic("put into " + to, desk -> desk.put(to, 9, 10001), "-1.25", "2");
            BOUNDS.refusedWithDraft("1e10001", "read into " + to, ArithmeticException.class, desk -> desk.read(to),
                    "-1.25", "2");
            BOUNDS.refusedWithDraft("1.5x", "read into " + to, IllegalStateException.class, desk -> desk.read(to),
                    "-1.25", "2");
        }
        BOUNDS.refused("told", IndexOutOfBoundsException.class, desk -> desk.told(A, 6), "-1.25");
        BOUNDS.illegal("written in kind 3", desk -> desk.written(A, 3), "-1.25");
        BOUNDS.illegal("written of 10", desk -> desk.written(10, 1), "-1.25");
    }
}
