/** Promise 5, and the limits beyond which something is no token. */
public final class WrongTest {
    private static final Checks CHECKS = new Checks();

    public static void main(String[] args) {
        countsAllThatWereLookedAt();
        staysUpToTheNextRead();
        tellsLongNames();
        tellsLongNumbers();
        tellsNumbersOutOfRange();
        tellsWrongQuotes();
        CHECKS.finish();
    }

    private static void countsAllThatWereLookedAt() {
        CHECKS.due("wrong() at once", Checks.rowOf("# a").wrong(), 0);
        CHECKS.due("wrong() at the end", Checks.rowOf("a b #").wrong(), 2);
        CHECKS.due("wrong() of the first only", Checks.rowOf("a # b # c").wrong(), 1);
        for (int count : new int[] {8191, 8192, 8193, 10000}) {
            TokenRow row = Checks.rowOf(";".repeat(count) + "#");
            CHECKS.due("wrong() behind " + count, row.wrong(), count);
            int kept = Math.min(count, 8192);
            CHECKS.due("kind of the last kept", row.kind(kept - 1), 76);
            CHECKS.dueThrow("kind behind it", IndexOutOfBoundsException.class, () -> row.kind(kept));
        }
    }

    private static void staysUpToTheNextRead() {
        TokenRow row = Checks.rowOf("a #");
        Checks.enter(row, "b");
        CHECKS.due("wrong() before the next read", row.wrong(), 1);
        row.read();
        CHECKS.due("wrong() behind it", row.wrong(), -1);
    }

    private static void tellsLongNames() {
        CHECKS.dueKinds("a".repeat(200), 60);
        CHECKS.dueWrongBehind("a".repeat(201));
        CHECKS.dueKinds("a".repeat(100) + "\\u0062".repeat(100), 60);
        CHECKS.dueWrongBehind("1 " + "a".repeat(200) + "\\u0062 b", 61);
    }

    private static void tellsLongNumbers() {
        CHECKS.dueOne("0".repeat(1000), 61, 0);
        CHECKS.dueWrongBehind("0".repeat(1001));
        CHECKS.dueOne("0".repeat(999) + "L", 62, 0);
        CHECKS.dueWrongBehind("0".repeat(1000) + "L");
        CHECKS.dueOne("0x" + "0".repeat(990) + "7fffffff", 61, Integer.MAX_VALUE);
        CHECKS.dueWrongBehind("0x" + "0".repeat(991) + "7fffffff");
        CHECKS.dueOne("1" + "_".repeat(998) + "2", 61, 12);
        CHECKS.dueWrongBehind("1" + "_".repeat(999) + "2");
        CHECKS.dueOne("1." + "0".repeat(997) + "f", 63, 0x3f800000);
        CHECKS.dueWrongBehind("1." + "0".repeat(998) + "f");
    }

    private static void tellsNumbersOutOfRange() {
        for (String number : new String[] {
            "2147483649", "4294967296", "9223372036854775808", "9223372036854775809L", "18446744073709551616L",
            "0x100000000", "0x10000000000000000L", "040000000000", "02000000000000000000000L",
            "0b1" + "0".repeat(32), "0b1" + "0".repeat(64) + "L", "9".repeat(1000), "9".repeat(999) + "L",
            "1e309", "1e400", "1.7976931348623159e308", "1e-324", "2e-324", "1e-400", "1e39f", "3.4028236e38f",
            "1e-46f", "0x1p1024", "0x1.fffffffffffff8p1023", "0x1p-1075", "0x1p128f", "0x1.ffffffp127f", "0x1p-150f",
            "1e99999999999999999999", "1e-99999999999999999999", "0x1p99999999999999999999", "0x1p-99999999999999999999",
            "9".repeat(400) + "d", "0." + "0".repeat(400) + "1", "9".repeat(900) + "e99", ".1e-400"}) {
            CHECKS.dueWrongBehind("a " + number + " b", 60);
        }
    }

    private static void tellsWrongQuotes() {
        for (String quote : new String[] {
            "''", "'''", "'ab'", "'a", "'", "'\\'", "'\\400'", "'\\08'", "'\\8'", "'\\s'", "'\\x'", "'\n'", "'\r'",
            "'\\u000a'", "'\\u000d'", "'\\\n'", "'\\u0027'", "'\\u005c'", "\"", "\"a", "\"\\\"", "\"a\nb\"", "\"a\rb\"",
            "\"\\u000a\"", "\"\\u000d\"", "\"\\8\"", "\"\\s\"", "\"\\a\"", "\"\\\n\"", "\"" + "a".repeat(4001) + "\"",
            "\"" + "\\n".repeat(4001) + "\""}) {
            CHECKS.dueWrongBehind("a " + quote, 60);
        }
        CHECKS.dueOne("\"" + "a".repeat(4000) + "\"", 66, 4000);
        CHECKS.dueOne("\"" + "\\n".repeat(4000) + "\"", 66, 4000);
    }
}
