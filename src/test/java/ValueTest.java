/** Promise 8; RoundingTest has more of the broken numbers. */
public final class ValueTest {
    private static final Checks CHECKS = new Checks();

    public static void main(String[] args) {
        tellsInts();
        tellsLongs();
        tellsBrokenNumbers();
        tellsCharacters();
        tellsLengths();
        refusesWrongPlaces();
        CHECKS.finish();
    }

    private static void tellsInts() {
        CHECKS.dueOne("0", 61, 0);
        CHECKS.dueOne("1_0__0", 61, 100);
        CHECKS.dueOne("2147483647", 61, Integer.MAX_VALUE);
        CHECKS.dueOne("2147483648", 61, Integer.MIN_VALUE);
        CHECKS.dueOne("0x7fff_ffff", 61, Integer.MAX_VALUE);
        CHECKS.dueOne("0X80000000", 61, Integer.MIN_VALUE);
        CHECKS.dueOne("0xFfFfFfFf", 61, -1);
        CHECKS.dueOne("0xabcdef", 61, 0xabcdef);
        CHECKS.dueOne("0x1e1", 61, 0x1e1);
        CHECKS.dueOne("0x1d", 61, 0x1d);
        CHECKS.dueOne("00", 61, 0);
        CHECKS.dueOne("0_7", 61, 7);
        CHECKS.dueOne("01__7", 61, 15);
        CHECKS.dueOne("037777777777", 61, -1);
        CHECKS.dueOne("020000000000", 61, Integer.MIN_VALUE);
        CHECKS.dueOne("0b1_01", 61, 5);
        CHECKS.dueOne("0B" + "1".repeat(32), 61, -1);
        CHECKS.dueOne("\\u0031\\u005f\\u0032", 61, 12);
    }

    private static void tellsLongs() {
        CHECKS.dueOne("0L", 62, 0);
        CHECKS.dueOne("4294967296l", 62, 4294967296L);
        CHECKS.dueOne("9223372036854775807L", 62, Long.MAX_VALUE);
        CHECKS.dueOne("9223372036854775808L", 62, Long.MIN_VALUE);
        CHECKS.dueOne("0xffffffffL", 62, 4294967295L);
        CHECKS.dueOne("0x7fffffffffffffffL", 62, Long.MAX_VALUE);
        CHECKS.dueOne("0xffffffffffffffffl", 62, -1);
        CHECKS.dueOne("01777777777777777777777L", 62, -1);
        CHECKS.dueOne("01000000000000000000000L", 62, Long.MIN_VALUE);
        CHECKS.dueOne("0b" + "1".repeat(64) + "L", 62, -1);
        CHECKS.dueOne("0_1L", 62, 1);
    }

    private static void tellsBrokenNumbers() {
        CHECKS.dueOne("1.5", 64, Double.doubleToLongBits(1.5));
        CHECKS.dueOne("1.5f", 63, Float.floatToIntBits(1.5f));
        CHECKS.dueOne("0x1.8p1", 64, Double.doubleToLongBits(3));
        CHECKS.dueOne("0x.8p1F", 63, Float.floatToIntBits(1));
        CHECKS.dueOne("1_0.2_5e1_0", 64, Double.doubleToLongBits(10.25e10));
        CHECKS.dueOne("0x1_0.8_0p1_0", 64, Double.doubleToLongBits(16.5 * 1024));
        CHECKS.dueOne("010.5", 64, Double.doubleToLongBits(10.5));
        CHECKS.dueOne("0_9d", 64, Double.doubleToLongBits(9));
        CHECKS.dueOne("0.0 ".trim(), 64, 0);
        CHECKS.dueOne("0f", 63, 0);
        CHECKS.dueOne("0e99999999999999999999", 64, 0);
        CHECKS.dueOne("0x0p-99999999999999999999f", 63, 0);
    }

    private static void tellsCharacters() {
        CHECKS.dueOne("'a'", 65, 'a');
        CHECKS.dueOne("' '", 65, ' ');
        CHECKS.dueOne("'\"'", 65, '"');
        CHECKS.dueOne("'\\b'", 65, 8);
        CHECKS.dueOne("'\\t'", 65, 9);
        CHECKS.dueOne("'\\n'", 65, 10);
        CHECKS.dueOne("'\\f'", 65, 12);
        CHECKS.dueOne("'\\r'", 65, 13);
        CHECKS.dueOne("'\\\"'", 65, '"');
        CHECKS.dueOne("'\\''", 65, '\'');
        CHECKS.dueOne("'\\\\'", 65, '\\');
        CHECKS.dueOne("'\\0'", 65, 0);
        CHECKS.dueOne("'\\47'", 65, 39);
        CHECKS.dueOne("'\\77'", 65, 63);
        CHECKS.dueOne("'\\377'", 65, 255);
        CHECKS.dueOne("'\\u0000'", 65, 0);
        CHECKS.dueOne("'\\uffff'", 65, 65535);
        CHECKS.dueOne("'\\u005c\\u005c'", 65, '\\');
        CHECKS.dueOne("'\\u005cn'", 65, 10);
    }

    private static void tellsLengths() {
        CHECKS.dueOne("abc", 60, 3);
        CHECKS.dueOne("synchronized", 42, 12);
        CHECKS.dueOne("null", 53, 4);
        CHECKS.dueOne("\"\"", 66, 0);
        CHECKS.dueOne("\"a\\tb\\u0041\\101\"", 66, 5);
        CHECKS.dueOne("\"\\400\\08\"", 66, 4);
        CHECKS.dueOne("<<=", 114, 0);
        CHECKS.dueOne("(", 70, 0);
    }

    private static void refusesWrongPlaces() {
        TokenRow row = Checks.rowOf("1 2 #");
        CHECKS.due("value(1)", row.value(1), 2);
        for (int k : new int[] {-1, 2, 8192, Integer.MIN_VALUE, Integer.MAX_VALUE}) {
            CHECKS.dueThrow("value(" + k + ")", IndexOutOfBoundsException.class, () -> row.value(k));
        }
    }
}
