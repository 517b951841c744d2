/** Promise 10. */
public final class SameTest {
    private static final Checks CHECKS = new Checks();

    public static void main(String[] args) {
        dueSame("a a a", -1, 0, 0);
        dueSame("a b a b c", -1, -1, 0, 1, -1);
        dueSame("ab a abc ab", -1, -1, -1, 0);
        dueSame("ab ac bb Ab", -1, -1, -1, -1);
        dueSame("int \"int\" int \"in\\164\"", -1, 0, 0, 0);
        dueSame("\"x\" x \"\" \"\"", -1, 0, -1, 2);
        dueSame("\\u0061 a \"\\u0061\" \"\\141\"", -1, 0, 0, 0);
        dueSame("+ + 1 1 'a' 'a' a 1f 1f", -1, -1, -1, -1, -1, -1, -1, -1, -1);
        dueSame("1 a 'a' \"a\" ( (", -1, -1, -1, 1, -1, -1);
        dueSame("+ 1 \"\"", -1, -1, -1);
        dueSame("\"1\" 1 \"+\" +", -1, -1, -1, -1);

        TokenRow many = Checks.rowOf("b " + "a ".repeat(4500) + "b");
        CHECKS.due("same of the last", many.same(4501), 0);
        CHECKS.due("same of the one before", many.same(4500), 1);

        TokenRow row = Checks.rowOf("a a #");
        for (int k : new int[] {-1, 2, 8192, Integer.MIN_VALUE, Integer.MAX_VALUE}) {
            CHECKS.dueThrow("same(" + k + ")", IndexOutOfBoundsException.class, () -> row.same(k));
        }
        Checks.enter(row, "b a");
        row.read();
        CHECKS.due("same(1) does not see the text before", row.same(1), -1);
        CHECKS.finish();
    }

    private static void dueSame(String text, int... same) {
        TokenRow row = Checks.rowOf(text);
        for (int k = 0; k < same.length; k++) {
            CHECKS.due(Checks.shown(text) + " same(" + k + ")", row.same(k), same[k]);
        }
    }
}
