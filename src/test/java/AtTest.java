/** Promise 9. */
public final class AtTest {
    private static final Checks CHECKS = new Checks();

    public static void main(String[] args) {
        dueSpelled("abc", "abc");
        dueSpelled("a\\u0062_$9", "ab_$9");
        dueSpelled("while", "while");
        dueSpelled("\"\"", "");
        dueSpelled("\"a b\"", "a b");
        dueSpelled("\"\\b\\t\\n\\f\\r\\\"\\'\\\\\"", "\b\t\n\f\r\"'\\");
        dueSpelled("\"\\0\\7\\18\\377\\400\\777\"", "\0\7\0018\377\400\777");
        dueSpelled("\"\\u0041\\uffff\\uu0000\\u00e9\"", "A\uffff\0\u00e9");
        dueSpelled("\"\\\\u0041\"", "\\u0041");
        dueSpelled("\"\\u005c\"'/*//\"", "\"'/*//");
        dueSpelled("\"" + "xyz0".repeat(1000) + "\"", "xyz0".repeat(1000));

        TokenRow row = Checks.rowOf("+ 1 1L 1f 1d 'a' \"bc\" de #");
        for (int k = 0; k <= 5; k++) {
            int other = k;
            CHECKS.dueThrow("at(" + k + ", 0)", IndexOutOfBoundsException.class, () -> row.at(other, 0));
        }
        CHECKS.due("at(6, 1)", row.at(6, 1), 'c');
        CHECKS.due("at(7, 0)", row.at(7, 0), 'd');
        for (int k : new int[] {-1, 8, Integer.MIN_VALUE, Integer.MAX_VALUE}) {
            CHECKS.dueThrow("at(" + k + ", 0)", IndexOutOfBoundsException.class, () -> row.at(k, 0));
        }
        for (int i : new int[] {-1, 2, Integer.MIN_VALUE, Integer.MAX_VALUE}) {
            CHECKS.dueThrow("at(6, " + i + ")", IndexOutOfBoundsException.class, () -> row.at(6, i));
            CHECKS.dueThrow("at(7, " + i + ")", IndexOutOfBoundsException.class, () -> row.at(7, i));
        }
        CHECKS.finish();
    }

    /** The token says it, and says it also behind other ones. */
    private static void dueSpelled(String token, String due) {
        TokenRow row = Checks.rowOf("\"\\101\\102\\103\" " + token + ";" + token);
        for (int k = 1; k <= 3; k += 2) {
            int spelled = k;
            String call = Checks.shown(token) + " at(" + k + ", ";
            for (int i = 0; i < due.length(); i += due.length() > 100 ? 37 : 1) {
                CHECKS.due(call + i + ")", row.at(k, i), due.charAt(i));
            }
            CHECKS.dueThrow(call + due.length() + ")", IndexOutOfBoundsException.class,
                () -> row.at(spelled, due.length()));
        }
    }
}
