import java.math.BigDecimal;
import java.util.Random;

/** Promise 8 of broken numbers: the nearest float or double, as the library finds it. */
public final class RoundingTest {
    private static final Checks CHECKS = new Checks();
    // A seed that stays makes the same numbers each time.
    private static final Random CHOICE = new Random(20240501);
    private static final int ROUNDS = 3000;
    private static TokenRow row = new TokenRow();
    private static int calls;

    public static void main(String[] args) {
        edges();
        for (int i = 0; i < ROUNDS; i++) {
            shortDecimals();
            hexadecimals();
        }
        for (int i = 0; i < ROUNDS / 10; i++) {
            betweenDoubles();
            betweenFloats();
            longDecimals();
        }
        CHECKS.finish();
    }

    private static void edges() {
        for (String number : new String[] {
            "4.9e-324", "2.4703282292062328e-324", "2.4703282292062327e-324", "1.7976931348623157e308",
            "1.7976931348623158e308", "1.797693134862315807e308", "1.797693134862315808e308", "2.2250738585072011e-308",
            "2.2250738585072012e-308", "2.2250738585072014e-308", "9007199254740993", "9007199254740991.5",
            "9007199254740995", "1e22", "1e23", "8.5e22", "123456789012345678901234567890", "0.1", "0.3", "1e-5", "100",
            "1.4e-45", "7.0064923e-46", "7.006492e-46", "3.4028235e38", "3.4028235677973366e38", "3.4028235677973365e38",
            "1.17549435e-38", "1.1754943e-38", "16777217", "16777219", "33554434", "16777216.9999999999999", "1e10",
            "1" + "0".repeat(308), "1" + "0".repeat(900) + "e-900", "0." + "0".repeat(900) + "1e901",
            "0." + "0".repeat(320) + "1", "1" + "0".repeat(990) + "e-1300", "0." + "0".repeat(980) + "1e1289"}) {
            both(number);
        }
        for (String number : new String[] {
            "0x1p-1074", "0x1p-1075", "0x1.0000000000001p-1075", "0x0.8p-1074", "0x1.8p-1074", "0x1.4p-1073",
            "0x1.fffffffffffffp1023", "0x1.fffffffffffff7fp1023", "0x1.fffffffffffff8p1023", "0x1.00000000000008p0",
            "0x1.00000000000018p0", "0x1.000000000000080001p0", "0x0.fffffffffffffcp-1022", "0x1p-149", "0x1p-150",
            "0x1.000002p-150", "0x1.fffffep127", "0x1.fffffefp127", "0x1.ffffffp127", "0x1.000001p0", "0x1.000003p0",
            "0x1." + "0".repeat(900) + "1p0", "0x" + "f".repeat(990) + "p-3960", "0x0." + "0".repeat(900) + "1p3604"}) {
            both(number);
        }
    }

    private static void shortDecimals() {
        String digits = Long.toString(CHOICE.nextLong() >>> 1 + CHOICE.nextInt(63));
        int dot = CHOICE.nextInt(digits.length() + 1);
        String exponent = CHOICE.nextBoolean() ? "e" + (CHOICE.nextInt(660) - 340) : "E+" + CHOICE.nextInt(40);
        both(digits.substring(0, dot) + "." + digits.substring(dot) + exponent);
        both(digits + "e" + (CHOICE.nextInt(110) - 65));
    }

    private static void hexadecimals() {
        String digits = Long.toHexString(CHOICE.nextLong() >>> CHOICE.nextInt(63));
        int dot = CHOICE.nextInt(digits.length() + 1);
        int range = CHOICE.nextBoolean() ? 2200 : 300;
        both("0x" + digits.substring(0, dot) + "." + digits.substring(dot) + "p" + (CHOICE.nextInt(range) - range / 2));
    }

    /** Right between two doubles, and next to that place. */
    private static void betweenDoubles() {
        double lower = Double.longBitsToDouble((long) CHOICE.nextInt(2046) << 52 | CHOICE.nextLong() >>> 12);
        around(new BigDecimal(lower).add(new BigDecimal(Math.nextUp(lower))).divide(new BigDecimal(2)));
    }

    private static void betweenFloats() {
        float lower = Float.intBitsToFloat(CHOICE.nextInt(254) << 23 | CHOICE.nextInt() >>> 9);
        around(new BigDecimal(lower).add(new BigDecimal(Math.nextUp(lower))).divide(new BigDecimal(2)));
    }

    private static void around(BigDecimal middle) {
        BigDecimal step = BigDecimal.ONE.movePointLeft(middle.scale() + 3);
        for (BigDecimal number : new BigDecimal[] {middle, middle.add(step), middle.subtract(step)}) {
            both(number.unscaledValue() + "e" + -number.scale());
        }
    }

    private static void longDecimals() {
        StringBuilder digits = new StringBuilder();
        int length = 1 + CHOICE.nextInt(990);
        for (int i = 0; i < length; i++) {
            digits.append(CHOICE.nextInt(10));
        }
        both(digits + "e" + (CHOICE.nextInt(620) - 310 - length));
    }

    private static void both(String number) {
        if (number.length() >= 1000) {
            return;
        }
        double asDouble = Double.parseDouble(number);
        float asFloat = Float.parseFloat(number);
        boolean isZero = Checks.isWrittenZero(number);
        if (number.matches(".*[.ep].*")) {
            one(number, 64, Double.doubleToLongBits(asDouble), isGood(asDouble, isZero));
        }
        if (!number.startsWith("0x") || number.contains("p")) {
            one(number + "d", 64, Double.doubleToLongBits(asDouble), isGood(asDouble, isZero));
            one(number + "f", 63, Float.floatToIntBits(asFloat), isGood(asFloat, isZero));
        }
    }

    private static boolean isGood(double rounded, boolean isZero) {
        return !Double.isInfinite(rounded) && (rounded != 0 || isZero);
    }

    private static void one(String number, int kind, long bits, boolean isGood) {
        calls += number.length() / 20 + 5;
        if (calls > 512) {
            row = new TokenRow();
            calls = number.length() / 20 + 5;
        }
        Checks.enter(row, number);
        CHECKS.due(number + " is read", Checks.readsAll(row), isGood);
        if (isGood && row.wrong() == -1) {
            CHECKS.due(number + " kind", row.kind(0), kind);
            CHECKS.due(number + " value", row.value(0), bits);
        }
    }
}
