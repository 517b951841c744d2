/** Promise 7. */
public final class GluedTest {
    private static final Checks CHECKS = new Checks();

    public static void main(String[] args) {
        dueGlued("a", false);
        dueGlued(" a", false);
        dueGlued("a+b", false, true, true);
        dueGlued("a + b", false, false, false);
        dueGlued("> >> >>>", false, false, true, false, true, true);
        dueGlued("a/**/b a//\nb", false, false, false, false);
        dueGlued("a\tb\nc\fd\re", false, false, false, false, false);
        dueGlued("\"a\\tb\"'c'\"\\u0041\"1", false, true, true, true);
        dueGlued("09 1_", false, true, false, true);
        dueGlued("a\\u002bb\\u0020c", false, true, true, false);
        dueGlued("a;#", false, true);

        TokenRow row = Checks.rowOf("a;");
        for (int k : new int[] {-1, 2, Integer.MIN_VALUE, Integer.MAX_VALUE}) {
            CHECKS.dueThrow("glued(" + k + ")", IndexOutOfBoundsException.class, () -> row.glued(k));
        }
        Checks.enter(row, ";");
        row.read();
        CHECKS.due("glued(0) of a second text", row.glued(0), false);
        CHECKS.finish();
    }

    private static void dueGlued(String text, boolean... glued) {
        TokenRow row = Checks.rowOf(text);
        for (int k = 0; k < glued.length; k++) {
            CHECKS.due(Checks.shown(text) + " glued(" + k + ")", row.glued(k), glued[k]);
        }
        CHECKS.dueThrow(Checks.shown(text) + " glued(" + glued.length + ")", IndexOutOfBoundsException.class,
            () -> row.glued(glued.length));
    }
}
