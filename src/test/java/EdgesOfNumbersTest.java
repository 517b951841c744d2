import java.math.BigDecimal;
import java.math.BigInteger;

/** The boundary cases that "Terms" names of NUMBERS: a method for each of them. */
public final class EdgesOfNumbersTest {
    private static final Checks CHECKS = new Checks();
    private static final BigDecimal TWO = new BigDecimal(2);

    public static void main(String[] args) {
        numbersAreOf1000();
        underscoresStandBetweenDigits();
        wholeOnesOfBase10();
        longOnesOfBase10();
        wholeOnesOfOtherBases();
        longOnesOfOtherBases();
        largestBrokenOnes();
        smallestBrokenOnes();
        zerosAreGood();
        ofTwoTheEvenOne();
        roundBetweenTheSmallAndTheOrdinary();
        exponentsAreEndless();
        endWhereNothingGoesOn();
        lettersAreSmallOrLarge();
        saysNothingOfTheOnesBefore();
        CHECKS.finish();
    }

    // "at most 1000 characters (all of the TOKEN)"
    private static void numbersAreOf1000() {
        dueOf1000("1", "_", "1", 61);
        dueOf1000("1", "_", "1L", 62);
        dueOf1000("0", "0", "7", 61);
        dueOf1000("0", "0", "7l", 62);
        dueOf1000("0x", "0", "7", 61);
        dueOf1000("0x", "0", "7L", 62);
        dueOf1000("0b", "0", "1", 61);
        dueOf1000("0b", "0", "1L", 62);
        dueOf1000("1.", "5", "", 64);
        dueOf1000("1.", "5", "d", 64);
        dueOf1000("1.", "5", "F", 63);
        dueOf1000("", "0", "1f", 63);
        dueOf1000("1e", "0", "1", 64);
        dueOf1000("1e+", "0", "1D", 64);
        dueOf1000(".", "5", "e-1f", 63);
        dueOf1000("0x1.", "f", "p1", 64);
        dueOf1000("0x.", "f", "p1d", 64);
        dueOf1000("0x1p-", "0", "1f", 63);
    }

    /** A number that is filled up to 1000 characters is one token; with one more it is none. */
    private static void dueOf1000(String before, String filling, String behind, int kind) {
        for (int length = 999; length <= 1001; length++) {
            String number = before + filling.repeat(length - before.length() - behind.length()) + behind;
            for (String text : new String[] {number, "\\u00" + Integer.toHexString(number.charAt(0)) + number.substring(1)}) {
                if (length <= 1000) {
                    CHECKS.dueKinds(text, kind);
                } else {
                    CHECKS.dueWrongBehind(text);
                    CHECKS.dueWrongBehind("a " + text + " b", 60);
                }
            }
        }
    }

    // "_ between digits"
    private static void underscoresStandBetweenDigits() {
        for (String number : new String[] {"1_1", "1__1", "0_1", "0x1_1", "0b1_1", "1_1L", "0x1_1L", "0_1L"}) {
            CHECKS.due(number, Checks.rowOf(number).wrong(), -1);
            CHECKS.dueThrow(number + " kind(1)", IndexOutOfBoundsException.class, () -> Checks.rowOf(number).kind(1));
        }
        CHECKS.dueKinds("_1", 60);
        CHECKS.dueKinds("1_", 61, 60);
        CHECKS.dueKinds("1_L", 61, 60);
        CHECKS.dueKinds("1L_", 62, 60);
        CHECKS.dueKinds("0_", 61, 60);
        CHECKS.dueKinds("0x_1", 61, 60);
        CHECKS.dueKinds("0_x1", 61, 60);
        CHECKS.dueKinds("0x1_", 61, 60);
        CHECKS.dueKinds("0b_1", 61, 60);
        CHECKS.dueKinds("0b1_", 61, 60);
        CHECKS.dueKinds("1_.1", 61, 60, 64);
        CHECKS.dueKinds("1._1", 64, 60);
        CHECKS.dueKinds("1.1_", 64, 60);
        CHECKS.dueKinds("1_e1", 61, 60);
        CHECKS.dueKinds("1e_1", 61, 60);
        CHECKS.dueKinds("1e1_", 64, 60);
        CHECKS.dueKinds("1e1_1", 64);
        CHECKS.dueKinds("1_f", 61, 60);
        CHECKS.dueKinds("0x1_p1", 61, 60);
        CHECKS.dueKinds("0x1p_1", 61, 60);
    }

    // "A whole one in base 10 is at most 2147483648"
    private static void wholeOnesOfBase10() {
        CHECKS.dueOne("2147483647", 61, 2147483647);
        CHECKS.dueOne("2147483648", 61, -2147483648);
        CHECKS.dueOne("2_147_483_648", 61, -2147483648);
        for (String number : new String[] {
            "2147483649", "4294967295", "4294967296", "4294967297", "9223372036854775807", "9223372036854775808",
            "18446744073709551615", "18446744073709551616", "18446744073709551617", "340282366920938463463374607431768211456"}) {
            CHECKS.dueWrongBehind(number);
            CHECKS.dueWrongBehind("- " + number + ";", 98);
        }
    }

    // "of a long 9223372036854775808"
    private static void longOnesOfBase10() {
        CHECKS.dueOne("2147483648L", 62, 2147483648L);
        CHECKS.dueOne("2147483649L", 62, 2147483649L);
        CHECKS.dueOne("9223372036854775807L", 62, Long.MAX_VALUE);
        CHECKS.dueOne("9223372036854775808L", 62, Long.MIN_VALUE);
        CHECKS.dueOne("9223372036854775808l", 62, Long.MIN_VALUE);
        for (String number : new String[] {
            "9223372036854775809L", "18446744073709551615L", "18446744073709551616L", "18446744073709551617L",
            "27670116110564327424L", "340282366920938463463374607431768211456L"}) {
            CHECKS.dueWrongBehind(number);
        }
    }

    // "in others it has at most 32"
    private static void wholeOnesOfOtherBases() {
        dueBits("0x", 16, 31, "", 61, Integer.MAX_VALUE);
        dueBits("0x", 16, 32, "", 61, -1);
        dueBits("0", 8, 31, "", 61, Integer.MAX_VALUE);
        dueBits("0", 8, 32, "", 61, -1);
        dueBits("0b", 2, 31, "", 61, Integer.MAX_VALUE);
        dueBits("0b", 2, 32, "", 61, -1);
        for (int base : new int[] {16, 8, 2}) {
            CHECKS.dueOne(mark(base) + power(31, base), 61, Integer.MIN_VALUE);
            CHECKS.dueWrongBehind(mark(base) + power(32, base));
            CHECKS.dueWrongBehind(mark(base) + power(33, base));
            CHECKS.dueWrongBehind(mark(base) + power(64, base));
            CHECKS.dueWrongBehind(mark(base) + power(128, base));
        }
        CHECKS.dueOne("0x000000000ffffffff", 61, -1);
    }

    // ", 64 bits"
    private static void longOnesOfOtherBases() {
        dueBits("0x", 16, 32, "L", 62, 4294967295L);
        dueBits("0x", 16, 63, "L", 62, Long.MAX_VALUE);
        dueBits("0x", 16, 64, "L", 62, -1);
        dueBits("0", 8, 63, "L", 62, Long.MAX_VALUE);
        dueBits("0", 8, 64, "L", 62, -1);
        dueBits("0b", 2, 63, "l", 62, Long.MAX_VALUE);
        dueBits("0b", 2, 64, "l", 62, -1);
        for (int base : new int[] {16, 8, 2}) {
            CHECKS.dueOne(mark(base) + power(32, base) + "L", 62, 4294967296L);
            CHECKS.dueOne(mark(base) + power(63, base) + "L", 62, Long.MIN_VALUE);
            CHECKS.dueWrongBehind(mark(base) + power(64, base) + "L");
            CHECKS.dueWrongBehind(mark(base) + power(65, base) + "L");
            CHECKS.dueWrongBehind(mark(base) + power(128, base) + "L");
        }
        CHECKS.dueOne("0x0000000000ffffffffffffffffL", 62, -1);
    }

    private static String mark(int base) {
        return base == 16 ? "0x" : base == 8 ? "0" : "0b";
    }

    private static String power(int exponent, int base) {
        return BigInteger.ONE.shiftLeft(exponent).toString(base);
    }

    /** The number of so many bits that are all 1. */
    private static void dueBits(String mark, int base, int bits, String behind, int kind, long value) {
        String ones = BigInteger.ONE.shiftLeft(bits).subtract(BigInteger.ONE).toString(base);
        CHECKS.dueOne(mark + ones + behind, kind, value);
    }

    // "neither infinite"
    private static void largestBrokenOnes() {
        BigInteger halfDouble = BigInteger.ONE.shiftLeft(1024).subtract(BigInteger.ONE.shiftLeft(970));
        dueLargest(halfDouble, "d", 64, Double.doubleToLongBits(Double.MAX_VALUE));
        dueLargest(halfDouble, ".0", 64, Double.doubleToLongBits(Double.MAX_VALUE));
        BigInteger halfFloat = BigInteger.ONE.shiftLeft(128).subtract(BigInteger.ONE.shiftLeft(103));
        dueLargest(halfFloat, "f", 63, Float.floatToIntBits(Float.MAX_VALUE));
        CHECKS.dueOne(halfFloat + "d", 64, Double.doubleToLongBits(halfFloat.doubleValue()));
        CHECKS.dueOne("0x1.fffffffffffffp1023", 64, Double.doubleToLongBits(Double.MAX_VALUE));
        CHECKS.dueOne("0x1.fffffffffffff7ffp1023", 64, Double.doubleToLongBits(Double.MAX_VALUE));
        CHECKS.dueWrongBehind("0x1.fffffffffffff8p1023");
        CHECKS.dueOne("0x1p1023", 64, Double.doubleToLongBits(0x1p1023));
        CHECKS.dueWrongBehind("0x1p1024");
        CHECKS.dueOne("0x1.fffffep127f", 63, Float.floatToIntBits(Float.MAX_VALUE));
        CHECKS.dueOne("0x1.fffffefp127f", 63, Float.floatToIntBits(Float.MAX_VALUE));
        CHECKS.dueWrongBehind("0x1.ffffffp127f");
        CHECKS.dueOne("0x1p127f", 63, Float.floatToIntBits(0x1p127f));
        CHECKS.dueWrongBehind("0x1p128f");
        CHECKS.dueOne("1e308", 64, Double.doubleToLongBits(1e308));
        CHECKS.dueWrongBehind("1e309");
        CHECKS.dueOne("1e38f", 63, Float.floatToIntBits(1e38f));
        CHECKS.dueWrongBehind("1e39f");
    }

    /** From the half on, between the largest and what would be next, it is infinite. */
    private static void dueLargest(BigInteger half, String behind, int kind, long largest) {
        CHECKS.dueOne(half.subtract(BigInteger.ONE) + behind, kind, largest);
        CHECKS.dueWrongBehind(half + behind);
        CHECKS.dueWrongBehind(half.add(BigInteger.ONE) + behind);
    }

    // "nor, if it is not 0, 0"
    private static void smallestBrokenOnes() {
        dueSmallest(1075, "", 64);
        dueSmallest(1075, "D", 64);
        dueSmallest(150, "f", 63);
        CHECKS.dueOne("0x1p-1074", 64, 1);
        CHECKS.dueOne("0x1.00000001p-1075", 64, 1);
        CHECKS.dueWrongBehind("0x1p-1075");
        CHECKS.dueWrongBehind("0x0.ffffp-1075");
        CHECKS.dueWrongBehind("0x1p-1076");
        CHECKS.dueOne("0x1p-149f", 63, 1);
        CHECKS.dueOne("0x1.00000001p-150f", 63, 1);
        CHECKS.dueWrongBehind("0x1p-150f");
        CHECKS.dueWrongBehind("0x0.ffffp-150f");
        CHECKS.dueOne("0x1p-150", 64, Double.doubleToLongBits(0x1p-150));
        CHECKS.dueOne("3e-324", 64, 1);
        CHECKS.dueWrongBehind("2e-324");
        CHECKS.dueOne("1e-45f", 63, 1);
        CHECKS.dueWrongBehind("7e-46f");
        CHECKS.dueWrongBehind("0." + "0".repeat(997) + "1");
        CHECKS.dueWrongBehind("0x0." + "0".repeat(900) + "1p0");
    }

    /** Up to the half of the smallest one it is 0; what is above that half is the smallest. */
    private static void dueSmallest(int halvings, String behind, int kind) {
        BigDecimal half = BigDecimal.ONE;
        for (int i = 0; i < halvings; i++) {
            half = half.divide(TWO);
        }
        BigInteger digits = half.unscaledValue();
        String exponent = "e-" + half.scale() + behind;
        CHECKS.dueWrongBehind(digits.subtract(BigInteger.ONE) + exponent);
        CHECKS.dueWrongBehind(digits + exponent);
        CHECKS.dueOne(digits.add(BigInteger.ONE) + exponent, kind, 1);
    }

    private static void zerosAreGood() {
        for (String zero : new String[] {
            "0.", ".0", "0e0", "0d", "00d", "0.0e-999", "0e999", "0x0p0", "0x.0p0", "0x0.p-9999", "0x0p9999", "0_0.0_0",
            "0." + "0".repeat(998)}) {
            CHECKS.dueOne(zero, 64, 0);
        }
        for (String zero : new String[] {"0f", "0.f", ".0F", "0e-99f", "0e99f", "0x0p0f", "0x0p-9999F"}) {
            CHECKS.dueOne(zero, 63, 0);
        }
    }

    // "the nearest float or double (of two the even one)"
    private static void ofTwoTheEvenOne() {
        dueDouble("9007199254740992.9999", 0x1p53);
        dueDouble("9007199254740993d", 0x1p53);
        dueDouble("9007199254740993.0001", 0x1p53 + 2);
        dueDouble("9007199254740994.9999", 0x1p53 + 2);
        dueDouble("9007199254740995d", 0x1p53 + 4);
        dueDouble("9007199254740995.0001", 0x1p53 + 4);
        dueDouble("0x1.00000000000008p0", 1);
        dueDouble("0x1.00000000000008001p0", 0x1.0000000000001p0);
        dueDouble("0x1.00000000000017fffp0", 0x1.0000000000001p0);
        dueDouble("0x1.00000000000018p0", 0x1.0000000000002p0);
        dueDouble("0x1.fffffffffffff8p0", 2);
        dueFloat("16777216.9999f", 0x1p24f);
        dueFloat("16777217f", 0x1p24f);
        dueFloat("16777217.0001f", 0x1p24f + 2);
        dueFloat("16777219f", 0x1p24f + 4);
        dueFloat("16777218.9999f", 0x1p24f + 2);
        dueFloat("0x1.000001p0f", 1);
        dueFloat("0x1.00000101p0f", 0x1.000002p0f);
        dueFloat("0x1.000003p0f", 0x1.000004p0f);
        dueFloat("0x1.ffffffp0f", 2);
        // Near the half of two floats, where a double in between would round twice.
        dueFloat("0x1.00000100000001p0f", 0x1.000002p0f);
        dueFloat("0x1.000002fffffffffffp0f", 0x1.000002p0f);
    }

    private static void roundBetweenTheSmallAndTheOrdinary() {
        dueDouble("0x0.fffffffffffffp-1022", 0x0.fffffffffffffp-1022);
        dueDouble("0x0.fffffffffffff7p-1022", 0x0.fffffffffffffp-1022);
        dueDouble("0x0.fffffffffffff8p-1022", Double.MIN_NORMAL);
        dueDouble("0x1.0p-1022", Double.MIN_NORMAL);
        dueDouble("0x1.8p-1074", 0x1p-1073);
        dueDouble("0x2.8p-1074", 0x1p-1073);
        dueFloat("0x0.fffffep-126f", 0x0.fffffep-126f);
        dueFloat("0x0.fffffeffp-126f", 0x0.fffffep-126f);
        dueFloat("0x0.ffffffp-126f", Float.MIN_NORMAL);
        dueFloat("0x1.8p-149f", 0x1p-148f);
        dueFloat("0x2.8p-149f", 0x1p-148f);
    }

    private static void dueDouble(String number, double value) {
        CHECKS.dueOne(number, 64, Double.doubleToLongBits(value));
    }

    private static void dueFloat(String number, float value) {
        CHECKS.dueOne(number, 63, Float.floatToIntBits(value));
    }

    private static void exponentsAreEndless() {
        for (String digits : new String[] {
            "2147483647", "2147483648", "4294967296", "4294967297", "9223372036854775808", "18446744073709551617",
            "9".repeat(900)}) {
            CHECKS.dueWrongBehind("1e" + digits);
            CHECKS.dueWrongBehind("1e-" + digits);
            CHECKS.dueWrongBehind("1e+" + digits + "f");
            CHECKS.dueWrongBehind("0x1p" + digits);
            CHECKS.dueWrongBehind("0x1p-" + digits + "f");
            CHECKS.dueOne("0e" + digits, 64, 0);
            CHECKS.dueOne("0x0p-" + digits + "f", 63, 0);
        }
        dueDouble("1e" + "0".repeat(900) + "22", 1e22);
        dueDouble("0." + "0".repeat(900) + "1e901", 1);
        dueDouble("1" + "0".repeat(900) + "e-900", 1);
        dueDouble("0x1" + "0".repeat(900) + "p-3600", 1);
        dueDouble("0x0." + "0".repeat(900) + "1p3604", 1);
    }

    // "but a number ends where nothing could go on it (09 is 0 and 9, 1_ is 1 and the NAME _, 0x is 0 and x)"
    private static void endWhereNothingGoesOn() {
        dueTwo("09", 61, 0, 61, 9);
        dueTwo("08", 61, 0, 61, 8);
        dueTwo("0778", 61, 63, 61, 8);
        dueTwo("1_", 61, 1, 60, 1);
        dueTwo("0x", 61, 0, 60, 1);
        dueTwo("0X", 61, 0, 60, 1);
        dueTwo("0xg", 61, 0, 60, 2);
        dueTwo("0b", 61, 0, 60, 1);
        dueTwo("0b2", 61, 0, 60, 2);
        dueTwo("0b12", 61, 1, 61, 2);
        dueTwo("0xfg", 61, 15, 60, 1);
        dueTwo("1e", 61, 1, 60, 1);
        dueTwo("0x1p", 61, 1, 60, 1);
        dueTwo("1LL", 62, 1, 60, 1);
        dueTwo("9a", 61, 9, 60, 1);
        dueTwo("09L", 61, 0, 62, 9);
        dueTwo("1.x", 64, Double.doubleToLongBits(1), 60, 1);
        dueTwo("1ff", 63, Float.floatToIntBits(1), 60, 1);
        dueTwo("1e1a", 64, Double.doubleToLongBits(10), 60, 1);
        dueTwo("0x1p1a", 64, Double.doubleToLongBits(2), 60, 1);
        dueTwo("0xp1", 61, 0, 60, 3);
        dueTwo("0x1.8", 61, 1, 64, Double.doubleToLongBits(0.8));
        CHECKS.dueKinds("0x.p1", 61, 60, 78, 60);
        CHECKS.dueKinds("0x1.p", 61, 78, 60);
        CHECKS.dueOne("07", 61, 7);
        CHECKS.dueOne("0xf", 61, 15);
        CHECKS.dueOne("0b1", 61, 1);
        dueDouble("09.", 9);
        dueDouble("09e0", 9);
        dueFloat("09f", 9);
    }

    private static void lettersAreSmallOrLarge() {
        CHECKS.dueOne("0Xff", 61, 255);
        CHECKS.dueOne("0xFF", 61, 255);
        CHECKS.dueOne("0B11", 61, 3);
        CHECKS.dueOne("1l", 62, 1);
        dueDouble("1E1", 10);
        dueDouble("1D", 1);
        dueDouble("0X1P1", 2);
        dueDouble("0x1P1D", 2);
        dueFloat("0X1p1F", 2);
        dueFloat("1E+1F", 10);
    }

    /** Each number in a row of them has its own value, however large the ones before it are. */
    private static void saysNothingOfTheOnesBefore() {
        String[] numbers = {
            "9223372036854775808L", "1", "0xffffffffffffffffL", "0", "2147483648", "0L", "1.5", "0.", "1e-300", "0f", "3L",
            "1.7976931348623157e308", "4.9e-324", "0x1p-1074", "1e22", "0x0p0", "1.4e-45f", "2f", "1e300", "07", "0b1L"};
        for (String first : numbers) {
            for (String second : numbers) {
                TokenRow both = Checks.rowOf(first + " " + second);
                CHECKS.due(first + " " + second + " value(0)", both.value(0), Checks.rowOf(first).value(0));
                CHECKS.due(first + " " + second + " value(1)", both.value(1), Checks.rowOf(second).value(0));
            }
        }
    }

    private static void dueTwo(String text, int kind, long value, int nextKind, long nextValue) {
        CHECKS.dueKinds(text, kind, nextKind);
        TokenRow row = Checks.rowOf(text);
        CHECKS.due(text + " value(0)", row.value(0), value);
        CHECKS.due(text + " value(1)", row.value(1), nextValue);
        CHECKS.due(text + " glued(1)", row.glued(1), true);
    }
}
