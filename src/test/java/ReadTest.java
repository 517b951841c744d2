/** Promise 4, and the terms of where a text is cut into tokens. */
public final class ReadTest {
    private static final Checks CHECKS = new Checks();

    public static void main(String[] args) {
        usesTheTextUp();
        countsUpToTheLimit();
        readsWhite();
        readsEscapesOfCharacters();
        endsAtHalfEscapes();
        endsNumbersWhereNothingGoesOn();
        CHECKS.finish();
    }

    private static void usesTheTextUp() {
        TokenRow row = new TokenRow();
        Checks.enter(row, "a = 1;");
        CHECKS.due("read()", row.read(), 4);
        CHECKS.due("read() again", row.read(), 0);
        CHECKS.dueThrow("kind(0) behind it", IndexOutOfBoundsException.class, () -> row.kind(0));
        Checks.enter(row, "a # b");
        CHECKS.dueThrow("read() of a #", UnsupportedOperationException.class, row::read);
        CHECKS.due("kind(0) before the #", row.kind(0), 60);
        CHECKS.due("read() behind the throw", row.read(), 0);
        CHECKS.due("wrong() behind it", row.wrong(), -1);
        CHECKS.dueThrow("kind(0) behind it", IndexOutOfBoundsException.class, () -> row.kind(0));
    }

    private static void countsUpToTheLimit() {
        for (int count : new int[] {8191, 8192, 8193, 8194, 10000}) {
            TokenRow row = new TokenRow();
            Checks.enter(row, ";".repeat(count));
            CHECKS.due("read() of " + count, row.read(), Math.min(count, 8193));
            CHECKS.due("wrong() of " + count, row.wrong(), -1);
            int kept = Math.min(count, 8192);
            CHECKS.due("kind of the last kept", row.kind(kept - 1), 76);
            CHECKS.dueThrow("kind behind it", IndexOutOfBoundsException.class, () -> row.kind(kept));
        }
    }

    private static void readsWhite() {
        CHECKS.dueKinds("");
        CHECKS.dueKinds(" \t\n\f\r");
        CHECKS.dueKinds("//");
        CHECKS.dueKinds("// a \\ # ' \" /* \r1//\n2", 61, 61);
        CHECKS.dueKinds("a//b\\u000ac\\u000dd", 60, 60, 60);
        CHECKS.dueKinds("/**/1/***/2/* / * // \n \" */3/*/*/", 61, 61, 61);
        CHECKS.dueKinds("\\u002f\\u002a a *\\u002f 1\\u0020\\u0009\\u000c2", 61, 61);
        CHECKS.dueKinds("/*\\\\u*/1", 61);
        CHECKS.dueKinds("* /", 99, 100);
        CHECKS.dueKinds("*/", 99, 100);
        CHECKS.dueWrongBehind("1 /*/", 61);
        CHECKS.dueWrongBehind("1 /* *", 61);
        CHECKS.dueWrongBehind("/*");
        for (char none : new char[] {1, 8, 11, 14, 26, 31, '#', '`', '\\', 127}) {
            CHECKS.dueWrongBehind("a" + none + "b", 60);
        }
    }

    private static void readsEscapesOfCharacters() {
        CHECKS.dueKinds("\\u0069n\\uuu0074", 27);
        CHECKS.dueKinds("\\u003B\\u003b", 76, 76);
        CHECKS.dueKinds("\\u0022a\"", 66);
        CHECKS.dueKinds("\"\\u005c\"\"", 66);
        CHECKS.dueKinds("\"\\\\u0041\\\\\"", 66);
        CHECKS.dueKinds("\"\\\\\\u0022", 66);
        CHECKS.dueKinds("\"\\u005c\\u005c\"", 66);
        CHECKS.dueKinds("\"\\u005c\\\\\\\"", 66);
        CHECKS.dueWrongBehind("\"\\u005cu0041\"");
        CHECKS.dueWrongBehind("\\\\u0041");
        CHECKS.dueWrongBehind("a\\u00e9", 60);
        CHECKS.dueWrongBehind("a\\u0000", 60);
        CHECKS.dueWrongBehind("a\\U0061", 60);
    }

    private static void endsAtHalfEscapes() {
        for (String half : new String[] {"\\u", "\\uu", "\\u1", "\\u123", "\\u12g4", "\\u 1234", "\\u123\n", "\\u-123"}) {
            CHECKS.dueWrongBehind(half);
            CHECKS.dueWrongBehind("ab" + half + "c", 60);
            CHECKS.dueWrongBehind("1e" + half + "1", 61, 60);
            CHECKS.dueWrongBehind("+" + half + "+", 97);
            CHECKS.dueWrongBehind("a // " + half + "\nb", 60);
            CHECKS.dueWrongBehind("a /* " + half + " */ b", 60);
            CHECKS.dueWrongBehind("a \"" + half + "\" b", 60);
            CHECKS.dueWrongBehind("a " + half + " b", 60);
        }
    }

    private static void endsNumbersWhereNothingGoesOn() {
        CHECKS.dueKinds("09", 61, 61);
        CHECKS.dueKinds("0_9", 61, 60);
        CHECKS.dueKinds("0778", 61, 61);
        CHECKS.dueKinds("09.5 09e1 09f 0_9d", 64, 64, 63, 64);
        CHECKS.dueKinds("09L", 61, 62);
        CHECKS.dueKinds("1_ 1_L 1__", 61, 60, 61, 60, 61, 60);
        CHECKS.dueKinds("0x 0xg 0x_1 0xL", 61, 60, 61, 60, 61, 60, 61, 60);
        CHECKS.dueKinds("0b 0b2 0b12 0b1f 0b1.5", 61, 60, 61, 60, 61, 61, 61, 60, 61, 64);
        CHECKS.dueKinds("1e 1e+ 1e_1 1e1_", 61, 60, 61, 60, 97, 61, 60, 64, 60);
        CHECKS.dueKinds("1.e 1.e1 1._1 1_.1", 64, 60, 64, 64, 60, 61, 60, 64);
        CHECKS.dueKinds("0x1.8 0x1.p 0x.8 0x.p1", 61, 64, 61, 78, 60, 61, 60, 64, 61, 60, 78, 60);
        CHECKS.dueKinds("0x1p 0x1p- 0x1_p1 0x1p1_ 0xp1", 61, 60, 61, 60, 98, 61, 60, 64, 60, 61, 60);
        CHECKS.dueKinds("0x1._8p1 0x1_.8p1", 61, 78, 60, 61, 60, 64, 60);
        CHECKS.dueKinds("1..2 1...2 ..2 ...2 1.2.3", 64, 64, 64, 78, 64, 78, 64, 79, 61, 64, 64);
        CHECKS.dueKinds("1ff 1dL 1Lx 1LL 0x1p1L", 63, 60, 64, 60, 62, 60, 62, 60, 64, 60);
    }
}
