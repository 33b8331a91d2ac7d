import java.math.BigInteger;
import java.util.Random;

/** Divisions whose digits, by nines, are those where a long division's guesses go wrong (promises 8 to 10). */
public final class LongDivisionTest {
    private static final String[] NINES_OF_DIGITS = {
        "000000000", "000000001", "333333333", "499999999", "500000000", "500000001", "999999998", "999999999"
    };
    private static final int CASES = 12000;

    private LongDivisionTest() {
    }

    public static void main(String[] args) {
        Check check = new Check();
        Random random = new Random(7);
        for (int i = 0; i < CASES; i++) {
            BigInteger a = number(random, 1 + random.nextInt(8));
            BigInteger b = number(random, 1 + random.nextInt(5)).add(BigInteger.ONE);
            if (random.nextInt(3) == 0) {
                a = b.multiply(a).subtract(BigInteger.valueOf(random.nextInt(3))).abs();
            }
            DecimalDesk desk = Check.desk(a.toString(), b.toString());
            desk.divide(0, 1, 2, 0, 1);
            desk.remainder(0, 1, 3);
            BigInteger[] due = a.divideAndRemainder(b);
            check.holds(a + " / " + b, desk, 2, due[0] + "s0");
            check.holds(a + " rest " + b, desk, 3, due[1] + "s0");
        }
        check.finish();
    }

    private static BigInteger number(Random random, int length) {
        StringBuilder text = new StringBuilder();
        for (int i = 0; i < length; i++) {
            text.append(random.nextInt(6) == 0 ? String.format("%09d", random.nextInt(1000000000))
                    : NINES_OF_DIGITS[random.nextInt(NINES_OF_DIGITS.length)]);
        }
        return new BigInteger(text.toString());
    }
}
