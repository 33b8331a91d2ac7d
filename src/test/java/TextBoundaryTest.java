/** The boundary cases of the texts that are read and written, sentence by sentence of the Terms. */
public final class TextBoundaryTest {
    private static final Bounds BOUNDS = new Bounds();
    private static final int TO = Bounds.TO;

    private TextBoundaryTest() {
    }

    public static void main(String[] args) {
        Runnable[] parts = {
            TextBoundaryTest::numberTexts, TextBoundaryTest::noNumberTexts, TextBoundaryTest::strangeCharacters,
            TextBoundaryTest::saidDecimals, TextBoundaryTest::saidScales, TextBoundaryTest::writtenSigns,
            TextBoundaryTest::kind0, TextBoundaryTest::kind1, TextBoundaryTest::kind2, TextBoundaryTest::kind2OfZero,
        };
        BOUNDS.run(parts);
    }

    private static void aNumberText() {
        BOUNDS.sentence("Terms", "A NUMBER TEXT is, perhaps, a sign, + or -, then digits, perhaps with a point before, "
                + "between or behind them (one digit at least), and perhaps e or E, perhaps a sign, and one to ten "
                + "digits.");
    }

    private static void says(String text, String due) {
        BOUNDS.gives("read " + text, desk -> {
            Check.draft(desk, text);
            desk.read(TO);
        }, due);
    }

    private static void saysNothing(String text) {
        BOUNDS.refusedWithDraft(text, "read " + text, IllegalStateException.class, desk -> desk.read(TO));
    }

    private static void saysTooMuch(String text) {
        BOUNDS.refusedWithDraft(text, "read " + text, ArithmeticException.class, desk -> desk.read(TO));
    }

    private static void numberTexts() {
        aNumberText();
        says("0", "0s0");
        says("9", "9s0");
        says("+1", "1s0");
        says("-1", "-1s0");
        says(".1", "1s1");
        says("1.", "1s0");
        says("1.2", "12s1");
        says("+.1", "1s1");
        says("-1.", "-1s0");
        says("1e0", "1s0");
        says("1E9", "1s-9");
        says("1e+9", "1s-9");
        says("1E-9", "1s9");
        says(".1e1", "1s0");
        says("1.e1", "1s-1");
        says("-.0E+0", "0s1");
        says("1e0000000009", "1s-9");
        says("1e-0000000009", "1s9");
        says("1e+0000010000", "1s-10000");
        says("0123456789", "123456789s0");
        says("0".repeat(1088) + "7e0000000001", "7s-1");
        says("." + "0".repeat(1088) + "7e+00000001", "7s1088");
        says("0".repeat(1099) + "7", "7s0");
        says("0".repeat(1099) + ".", "0s0");
    }

    private static void noNumberTexts() {
        aNumberText();
        String[] texts = {
            "", "+", "-", ".", "+.", "-.", "e", "E", "e1", "E5", "+e1", "-E1", ".e1", "+.e1", "1e", "1E", "1e+", "1e-",
            "1.e", ".1E-", "++1", "--1", "+-1", "-+1", "1+", "1-", "1+1", ".+1", "1.-", "..", "..1", "1..", ".1.",
            "1.2.3", "1e1.", "1e.1", "1e1.5", "1e++1", "1e--1", "1e+-1", "1e1+", "1e1-", "1ee1", "1eE1", "1e1e1",
            "1e00000000001", "1e+00000000000", "1e-12345678901", "0e12345678901", " 1", "1 ", "+ 1", "1 e1", "1e 1",
            "1e1 ", "1 2", "1,2", "1_0", "1d", "1f", "1D", "1F", "1L", "0x1", "1p1", "Infinity", "NaN", "\t1", "1\n",
        };
        for (String text : texts) {
            saysNothing(text);
        }
        saysNothing("1".repeat(1099) + "e");
        saysNothing("1".repeat(1098) + "e-");
        saysNothing("1".repeat(1099) + "x");
        saysNothing("x" + "1".repeat(1099));
        saysNothing(".".repeat(1100));
        saysNothing("." + "0".repeat(1098) + ".");
        saysNothing("0e" + "0".repeat(1098));
    }

    /** Each character that is in no number text, in each place of one, also those beside the digits. */
    private static void strangeCharacters() {
        aNumberText();
        for (char c = 1; c < 256; c++) {
            if ("+-.eE0123456789".indexOf(c) < 0) {
                saysNothing("" + c);
                saysNothing("1" + c);
                saysNothing(c + "1");
                saysNothing("1e" + c);
                saysNothing("1e1" + c);
                saysNothing("1" + c + "1");
            }
        }
    }

    private static void saidDecimals() {
        BOUNDS.sentence("Terms", "It says a decimal: its number is that of the digits, with the sign, its scale how "
                + "many of them stand behind the point, less what stands behind e.");
        says("-0", "0s0");
        says("-0.00", "0s2");
        says("-0e5", "0s-5");
        says("000", "0s0");
        says("007", "7s0");
        says("0.07", "7s2");
        says("-00.0700", "-700s4");
        says("1.50", "150s2");
        says("150.", "150s0");
        says("1.50e2", "150s0");
        says("1.50e3", "150s-1");
        says("1.50e-3", "150s5");
        says("999999999", "999999999s0");
        says("1000000000", "1000000000s0");
        says("9223372036854775807", "9223372036854775807s0");
        says("-9223372036854775809", "-9223372036854775809s0");
        says("18446744073709551616", "18446744073709551616s0");
        says("-" + Bounds.NINES, "-" + Bounds.NINES + "s0");
        says("." + Bounds.NINES, Bounds.NINES + "s1000");
        says(Bounds.NINES.substring(1) + ".9", Bounds.NINES + "s1");
        says("0".repeat(50) + "." + "0".repeat(49) + Bounds.NINES, Bounds.NINES + "s1049");
    }

    /** Ten digits behind e go beyond what an int can have: no scale may come round to a small one. */
    private static void saidScales() {
        BOUNDS.sentence("Terms", "its scale how many of them stand behind the point, less what stands behind e.");
        says("1e10000", "1s-10000");
        says("1e-10000", "1s10000");
        says("1.0e10001", "10s-10000");
        says("0.0e-9999", "0s10000");
        says("0." + "0".repeat(100) + "e10000", "0s-9900");
        String[] texts = {
            "1e10001", "1e-10001", "1.0e10002", "1.0e-10000", "0e10001", "0e-10001", "1e2147483647", "1e2147483648",
            "1e-2147483648", "1e-2147483649", "1e4294967295", "1e4294967296", "1e-4294967296", "1e4294967297",
            "1.0e4294967296", "0e-4294967297", "1e8589934592", "1e-8589934592", "1e9999999999", "0e-9999999999",
            "1.5e-9999999999", "1e65536", "1e-65536",
        };
        for (String text : texts) {
            saysTooMuch(text);
        }
    }

    private static void writes(int kind, String number, String due) {
        BOUNDS.due("written" + Check.of(number) + " in kind " + kind, Check.written(number, kind), due);
    }

    private static void writtenSigns() {
        BOUNDS.sentence("Terms", "WRITTEN, a decimal has the digits of its number, and - before all if it is below 0.");
        for (int kind = 0; kind < 3; kind++) {
            writes(kind, "0", "0");
            writes(kind, "-0", "0");
            writes(kind, "-0.0", "0.0");
            writes(kind, "+1", "1");
            writes(kind, "-1", "-1");
            writes(kind, "-0.1", "-0.1");
            writes(kind, "-1000000000", "-1000000000");
            writes(kind, Bounds.NINES, Bounds.NINES);
            writes(kind, "-" + Bounds.NINES, "-" + Bounds.NINES);
        }
    }

    private static void kind0() {
        BOUNDS.sentence("Terms", "Kind 0: with s = 0 the digits;");
        writes(0, "1000000", "1000000");
        writes(0, Bounds.TEN_TO_999, Bounds.TEN_TO_999);
        BOUNDS.sentence("Terms", "with s above 0 and a not below -6 the digits with a point before the last s of them, "
                + "with zeros before them so that there is one digit before the point at least;");
        writes(0, "12.3", "12.3");
        writes(0, "1.23", "1.23");
        writes(0, "0.123", "0.123");
        writes(0, "0.0123", "0.0123");
        writes(0, "0.000000", "0.000000");
        writes(0, "0.000001", "0.000001");
        writes(0, "0.00000123", "0.00000123");
        writes(0, "-" + Bounds.NINES + "e-1", "-" + "9".repeat(999) + ".9");
        writes(0, Bounds.NINES + "e-999", "9." + "9".repeat(999));
        writes(0, Bounds.NINES + "e-1000", "0." + Bounds.NINES);
        writes(0, Bounds.NINES + "e-1005", "0.00000" + Bounds.NINES);
        BOUNDS.sentence("Terms", "otherwise the first digit, and if there are others a point and these, then E, + or - "
                + "and the digits of a.");
        writes(0, "0.0000000", "0E-7");
        writes(0, "0.0000001", "1E-7");
        writes(0, "0.000000123", "1.23E-7");
        writes(0, "0.0000000999", "9.99E-8");
        writes(0, "-" + Bounds.NINES + "e-1006", "-9." + "9".repeat(999) + "E-7");
        writes(0, "1e1", "1E+1");
        writes(0, "12e1", "1.2E+2");
        writes(0, "0e1", "0E+1");
        writes(0, "-10e1", "-1.0E+2");
        writes(0, "1e9", "1E+9");
        writes(0, "1e10", "1E+10");
        writes(0, "1e99", "1E+99");
        writes(0, "1e100", "1E+100");
        writes(0, "1e-10", "1E-10");
        writes(0, "1e9999", "1E+9999");
        writes(0, "1e10000", "1E+10000");
        writes(0, "1e-10000", "1E-10000");
        writes(0, "0e10000", "0E+10000");
        writes(0, "0e-10000", "0E-10000");
        writes(0, "-" + Bounds.NINES + "e10000", "-9." + "9".repeat(999) + "E+10999");
        writes(0, "-" + Bounds.NINES + "e-10000", "-9." + "9".repeat(999) + "E-9001");
    }

    private static void kind1() {
        BOUNDS.sentence("Terms", "Kind 1: with s not above 0 the digits and -s zeros (for the number 0 one 0 alone);");
        writes(1, "12", "12");
        writes(1, "12e1", "120");
        writes(1, "-1e10000", "-1" + "0".repeat(10000));
        writes(1, "-" + Bounds.NINES + "e10000", "-" + Bounds.NINES + "0".repeat(10000));
        writes(1, "0", "0");
        writes(1, "0e1", "0");
        writes(1, "-0e10000", "0");
        BOUNDS.sentence("Terms", "otherwise the digits with a point before the last s, as above.");
        writes(1, "0.0", "0.0");
        writes(1, "1.2", "1.2");
        writes(1, "0.12", "0.12");
        writes(1, "0.0000001", "0.0000001");
        writes(1, "-0.0000000", "0.0000000");
        writes(1, "0e-10000", "0." + "0".repeat(10000));
        writes(1, "-1e-10000", "-0." + "0".repeat(9999) + "1");
        writes(1, "-" + Bounds.NINES + "e-10000", "-0." + "0".repeat(9000) + Bounds.NINES);
        writes(1, Bounds.NINES + "e-1000", "0." + Bounds.NINES);
        writes(1, Bounds.NINES + "e-999", "9." + "9".repeat(999));
    }

    private static void kind2() {
        BOUNDS.sentence("Terms", "Kind 2: as kind 0, but with the E:");
        writes(2, "1000000", "1000000");
        writes(2, "0.000001", "0.000001");
        writes(2, "0.000000", "0.000000");
        writes(2, "-1234.5", "-1234.5");
        BOUNDS.sentence("Terms", "let b be the greatest multiple of 3 that is not above a; the first a - b + 1 digits, "
                + "with zeros behind them if there are not so many, then a point and the other digits, if there are "
                + "any, then, unless b is 0, E, + or - and the digits of b.");
        String[][] above = {
            {"1e1", "10"}, {"1e2", "100"}, {"1e3", "1E+3"}, {"1e4", "10E+3"}, {"1e5", "100E+3"}, {"1e6", "1E+6"},
            {"12e1", "120"}, {"12e2", "1.2E+3"}, {"12e3", "12E+3"}, {"12e4", "120E+3"}, {"12e5", "1.2E+6"},
            {"123e1", "1.23E+3"}, {"123e2", "12.3E+3"}, {"123e3", "123E+3"}, {"123e4", "1.23E+6"},
            {"1234e1", "12.34E+3"}, {"1234e2", "123.4E+3"}, {"1234e3", "1.234E+6"}, {"-10e1", "-100"},
            {"1e10000", "10E+9999"}, {"1e9999", "1E+9999"}, {"1e9998", "100E+9996"},
            {Bounds.NINES + "e10000", "99." + "9".repeat(998) + "E+10998"},
        };
        String[][] below = {
            {"1e-7", "100E-9"}, {"1e-8", "10E-9"}, {"1e-9", "1E-9"}, {"1e-10", "100E-12"}, {"12e-8", "120E-9"},
            {"12e-9", "12E-9"}, {"12e-10", "1.2E-9"}, {"123e-9", "123E-9"}, {"123e-10", "12.3E-9"},
            {"123e-11", "1.23E-9"}, {"-1234e-10", "-123.4E-9"}, {"1e-10000", "100E-10002"}, {"1e-9999", "1E-9999"},
            {"1e-9998", "10E-9999"}, {"-" + Bounds.NINES + "e-10000", "-999." + "9".repeat(997) + "E-9003"},
        };
        for (String[] row : above) {
            writes(2, row[0], row[1]);
        }
        for (String[] row : below) {
            writes(2, row[0], row[1]);
        }
    }

    private static void kind2OfZero() {
        BOUNDS.sentence("Terms", "For the number 0 let b be the least multiple of 3 that is not below a: 0, with b - a "
                + "zeros behind a point if that is above 0; then, unless b is 0, E and so on.");
        String[][] rows = {
            {"0", "0"}, {"0e1", "0.00E+3"}, {"0e2", "0.0E+3"}, {"0e3", "0E+3"}, {"0e4", "0.00E+6"}, {"-0e5", "0.0E+6"},
            {"0e-6", "0.000000"}, {"0e-7", "0.0E-6"}, {"0e-8", "0.00E-6"}, {"0e-9", "0E-9"}, {"0e-10", "0.0E-9"},
            {"0e9999", "0E+9999"}, {"0e10000", "0.00E+10002"}, {"0e-9999", "0E-9999"}, {"0e-10000", "0.0E-9999"},
            {"0e-9998", "0.00E-9996"},
        };
        for (String[] row : rows) {
            writes(2, row[0], row[1]);
        }
    }
}
