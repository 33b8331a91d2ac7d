/** Registers and modes that there are not: refused everywhere, before all else, and nothing changes. */
public final class RefusalTest {
    private static final Check CHECK = new Check();

    /** A call with three registers and a mode; those that it has not it leaves alone. */
    private interface Call {
        void with(DecimalDesk desk, int a, int b, int to, int mode);
    }

    private RefusalTest() {
    }

    public static void main(String[] args) {
        // Register 1 is 0 and register 0 below 0: most of these would otherwise be refused for that.
        two("add", (desk, a, b, to, mode) -> desk.add(a, b, to, true));
        two("multiply", (desk, a, b, to, mode) -> desk.multiply(a, b, to));
        two("divide", (desk, a, b, to, mode) -> desk.divide(a, b, to, 3, mode));
        two("quotient", (desk, a, b, to, mode) -> desk.quotient(a, b, to, 3, mode));
        two("quotient 0", (desk, a, b, to, mode) -> desk.quotient(a, b, to, 0, mode));
        two("remainder", (desk, a, b, to, mode) -> desk.remainder(a, b, to));
        one("power", (desk, a, b, to, mode) -> desk.power(a, 999, to));
        one("root", (desk, a, b, to, mode) -> desk.root(a, to, 3, mode));
        one("toScale", (desk, a, b, to, mode) -> desk.toScale(a, to, 10000, mode));
        one("round", (desk, a, b, to, mode) -> desk.round(a, to, 3, mode));
        one("strip", (desk, a, b, to, mode) -> desk.strip(a, to));
        one("shift", (desk, a, b, to, mode) -> desk.shift(a, to, 99999));
        one("negate", (desk, a, b, to, mode) -> desk.negate(a, to));
        wrong("compare a", (desk, a, b, to, mode) -> desk.compare(to, b));
        wrong("compare b", (desk, a, b, to, mode) -> desk.compare(a, to));
        modes("divide", (desk, a, b, to, mode) -> desk.divide(a, b, to, 3, mode));
        modes("quotient", (desk, a, b, to, mode) -> desk.quotient(a, b, to, 3, mode));
        modes("quotient 0", (desk, a, b, to, mode) -> desk.quotient(a, b, to, 0, mode));
        modes("root", (desk, a, b, to, mode) -> desk.root(a, to, 3, mode));
        modes("toScale", (desk, a, b, to, mode) -> desk.toScale(a, to, 2, mode));
        modes("round", (desk, a, b, to, mode) -> desk.round(a, to, 3, mode));
        CHECK.finish();
    }

    private static DecimalDesk desk() {
        DecimalDesk desk = Check.desk("-12.5e9999", "0.00", "33");
        desk.written(2, 0);
        Check.draft(desk, "1.x");
        return desk;
    }

    private static void two(String what, Call call) {
        one(what, call);
        wrong(what + " b", (desk, a, b, to, mode) -> call.with(desk, a, to, b, mode));
    }

    private static void one(String what, Call call) {
        wrong(what + " to", call);
        wrong(what + " a", (desk, a, b, to, mode) -> call.with(desk, to, b, a, mode));
    }

    private static void wrong(String what, Call call) {
        DecimalDesk desk = desk();
        int[] registers = {-1, 10, Integer.MIN_VALUE, Integer.MAX_VALUE};
        for (int register : registers) {
            CHECK.illegal(desk, what + " " + register, () -> call.with(desk, 0, 1, register, 0));
        }
    }

    private static void modes(String what, Call call) {
        DecimalDesk desk = desk();
        int[] modes = {-1, 8, Integer.MIN_VALUE, Integer.MAX_VALUE};
        for (int mode : modes) {
            CHECK.illegal(desk, what + " mode " + mode, () -> call.with(desk, 0, 1, 2, mode));
            CHECK.illegal(desk, what + " mode " + mode, () -> call.with(desk, 2, 2, 2, mode));
        }
    }
}
