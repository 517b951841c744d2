import java.nio.charset.StandardCharsets;

/** Promise 3. */
public final class EndTest {
    private static final Checks CHECKS = new Checks();

    public static void main(String[] args) {
        takesTheFirstBytes();
        refusesWrongLengths();
        refusesWrongBytes();
        leavesTheTextAndTokensAlone();
        CHECKS.finish();
    }

    private static TokenRow fed(String text) {
        TokenRow row = new TokenRow();
        Checks.feedBytes(row, text.getBytes(StandardCharsets.ISO_8859_1));
        return row;
    }

    private static void takesTheFirstBytes() {
        for (int n = 0; n <= 20; n++) {
            TokenRow row = fed(";;;;;;;;;;;;;;;;;;;;");
            CHECKS.due("end(" + n + ")", row.end(n), n);
            CHECKS.due("read() behind end(" + n + ")", row.read(), n);
        }
        TokenRow row = fed("a b c d e f g h i j ");
        row.end(3);
        CHECKS.dueThrow("what was behind the end is gone: end(1)", IllegalArgumentException.class, () -> row.end(1));
        CHECKS.due("end(0) takes the text away", row.end(0), 0);
        CHECKS.due("read()", row.read(), 0);
    }

    private static void refusesWrongLengths() {
        TokenRow row = fed("a b c d e f g h i j ");
        for (int n : new int[] {-1, Integer.MIN_VALUE, 21, Integer.MAX_VALUE}) {
            CHECKS.dueThrow("end(" + n + ")", IllegalArgumentException.class, () -> row.end(n));
        }
        CHECKS.due("end(20) behind those", row.end(20), 20);
        CHECKS.due("read()", row.read(), 10);
    }

    private static void refusesWrongBytes() {
        for (char wrong : new char[] {0, 128, 200, 255}) {
            TokenRow row = fed("a bc" + wrong);
            CHECKS.dueThrow("end(5) with " + (int) wrong, IllegalArgumentException.class, () -> row.end(5));
            CHECKS.due("end(4) before " + (int) wrong, row.end(4), 4);
            CHECKS.due("read()", row.read(), 2);
        }
        CHECKS.due("end with 1 and 127", fed("\u0001\u007f").end(2), 2);
    }

    private static void leavesTheTextAndTokensAlone() {
        TokenRow row = fed("a b c");
        row.end(5);
        Checks.feedBytes(row, "1 2 3 4 5 6 7 8 9 0 ".getBytes(StandardCharsets.ISO_8859_1));
        CHECKS.dueThrow("end(21)", IllegalArgumentException.class, () -> row.end(21));
        CHECKS.due("read() of the text before what came", row.read(), 3);
        CHECKS.due("end(4) of what came", row.end(4), 4);
        CHECKS.due("kind(2) before the next read", row.kind(2), 60);
        CHECKS.due("at(2, 0) before the next read", row.at(2, 0), 'c');
        CHECKS.due("next read()", row.read(), 2);
        CHECKS.due("kind(1)", row.kind(1), 61);
        Checks.enter(row, "x");
        Checks.enter(row, "y z");
        CHECKS.due("read() takes the latest end", row.read(), 2);
    }
}
