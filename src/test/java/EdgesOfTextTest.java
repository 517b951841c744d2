import java.nio.charset.StandardCharsets;

/** The boundary cases that "Terms" names of THE TEXT, of escapes with u and of WHITE: a method for each of them. */
public final class EdgesOfTextTest {
    private static final Checks CHECKS = new Checks();
    private static final String HEXADECIMAL = "0123456789abcdefABCDEF";

    public static void main(String[] args) {
        bytesAreOneTo127();
        evenNumberStandsBefore();
        oneOrMoreUStand();
        fourDigitsStand();
        eachOfTheFourIsHexadecimal();
        whatAnEscapeStandsForBeginsNone();
        halfEscapeEndsTheText();
        escapeIsCutByTheEnd();
        blanksAreFive();
        lineCommentGoesUpToTheLineEnd();
        lineCommentEndsWithTheText();
        otherCommentEndsBehindItsFirstTwo();
        otherCommentWithoutEndIsNoToken();
        slashAloneIsNoComment();
        CHECKS.finish();
    }

    // "THE TEXT is a row of at most 81920 bytes (1 to 127)"; FeedTest has the 81920.
    private static void bytesAreOneTo127() {
        for (int c = 0; c <= 255; c++) {
            TokenRow row = new TokenRow();
            Checks.feedBytes(row, new byte[] {(byte) c});
            if (c >= 1 && c <= 127) {
                CHECKS.due("end(1) with byte " + c, row.end(1), 1);
            } else {
                CHECKS.dueThrow("end(1) with byte " + c, IllegalArgumentException.class, () -> row.end(1));
            }
        }
    }

    // "if just an even number of \ stands right before that \"
    private static void evenNumberStandsBefore() {
        for (int before = 0; before <= 9; before++) {
            String text = "\"" + "\\".repeat(before + 1) + "u0041\"";
            boolean isEscape = before % 2 == 0;
            String due = isEscape ? "\\".repeat(before / 2) + "A" : "\\".repeat((before + 1) / 2) + "u0041";
            CHECKS.dueSpelled(text, 66, due);
            // Without its digits the escape ends the text, and the \\ that is none does not.
            String half = "\"" + "\\".repeat(before + 1) + "u\"";
            if (isEscape) {
                CHECKS.dueWrongBehind(half);
            } else {
                CHECKS.dueSpelled(half, 66, "\\".repeat((before + 1) / 2) + "u");
            }
        }
        CHECKS.dueSpelled("\"\\\\.\\u0041\"", 66, "\\.A");
        CHECKS.dueSpelled("\"\\n\\u0041\"", 66, "\nA");
        CHECKS.dueSpelled("\"\\u005c\\u005c\\u0041\"", 66, "\\A");
    }

    // "\ and one or more u"
    private static void oneOrMoreUStand() {
        for (int count : new int[] {1, 2, 3, 100}) {
            CHECKS.dueSpelled("\"\\" + "u".repeat(count) + "0041\"", 66, "A");
            CHECKS.dueWrongBehind("\"\\" + "u".repeat(count) + "004\"");
        }
        CHECKS.dueSpelled("\"\\0041\"", 66, "\0041");
        CHECKS.dueWrongBehind("\"\\U0041\"");
        CHECKS.dueWrongBehind("\"\\uU0041\"");
    }

    // "and four hexadecimal digits"
    private static void fourDigitsStand() {
        CHECKS.dueWrongBehind("\\u");
        CHECKS.dueWrongBehind("\\u0");
        CHECKS.dueWrongBehind("\\u00");
        CHECKS.dueWrongBehind("\\u006");
        CHECKS.dueSpelled("\\u0061", 60, "a");
        CHECKS.dueSpelled("\\u00611", 60, "a1");
        CHECKS.dueSpelled("\\u00610061", 60, "a0061");
        CHECKS.dueWrongBehind("\\u006 1");
        CHECKS.dueOne("'\\u0000'", 65, 0);
        CHECKS.dueOne("'\\u007f'", 65, 127);
        CHECKS.dueOne("'\\u0080'", 65, 128);
        CHECKS.dueOne("'\\u7FFF'", 65, 32767);
        CHECKS.dueOne("'\\u8000'", 65, 32768);
        CHECKS.dueOne("'\\uFFFF'", 65, 65535);
    }

    private static void eachOfTheFourIsHexadecimal() {
        for (int place = 0; place < 4; place++) {
            for (char c = 1; c <= 127; c++) {
                String four = "4141".substring(0, place) + c + "4141".substring(place + 1);
                String text = "'\\u" + four + "'";
                if (HEXADECIMAL.indexOf(c) >= 0) {
                    CHECKS.dueOne(text, 65, Integer.parseInt(four, 16));
                } else {
                    CHECKS.dueWrongBehind(text);
                }
            }
        }
    }

    // "what comes from such an escape begins none"
    private static void whatAnEscapeStandsForBeginsNone() {
        CHECKS.dueWrongBehind("\\u005cu0041");
        CHECKS.dueWrongBehind("\"\\u005cu0041\"");
        CHECKS.dueSpelled("\"\\u005c\\u005cu0041\"", 66, "\\u0041");
        CHECKS.dueWrongBehind("\"\\u005c\\\\u005c\"");
        CHECKS.dueSpelled("\"\\u005cn\\u005c156\"", 66, "\nn");
        CHECKS.dueSpelled("\"\\\\\\u0075\"", 66, "\\u");
    }

    // "a \ that would begin one without four such digits ends THE TEXT (it, and all behind it, are no TOKENS)"
    private static void halfEscapeEndsTheText() {
        for (String half : new String[] {"\\u", "\\uuu", "\\u006", "\\u006g", "\\uu 0061"}) {
            CHECKS.dueWrongBehind(half);
            CHECKS.dueWrongBehind(half + " a b");
            CHECKS.dueWrongBehind("a" + half + " b", 60);
            CHECKS.dueWrongBehind("1 + a " + half + "\n;", 61, 97, 60);
            CHECKS.dueWrongBehind("a //" + half + "\nb", 60);
            CHECKS.dueWrongBehind("a //" + half, 60);
            CHECKS.dueWrongBehind("a /*" + half + "*/b", 60);
            CHECKS.dueWrongBehind("a /**/" + half, 60);
            CHECKS.dueWrongBehind("a '" + half + "'", 60);
            CHECKS.dueWrongBehind("a \"\" \"" + half + "\"", 60, 66);
        }
        TokenRow row = Checks.rowOf("a \\u006 b");
        CHECKS.due("read() behind a half escape", row.read(), 0);
        Checks.enter(row, "0061 b");
        CHECKS.due("read() of a next text", row.read(), 2);
        CHECKS.due("wrong() of a next text", row.wrong(), -1);
    }

    private static void escapeIsCutByTheEnd() {
        for (int n = 1; n <= 7; n++) {
            TokenRow row = new TokenRow();
            Checks.feedBytes(row, ";\\u0061".getBytes(StandardCharsets.ISO_8859_1));
            row.end(n);
            // With one byte the \ is not there yet, with all seven it has its digits.
            boolean isGood = n == 1 || n == 7;
            CHECKS.due("read() of " + n + " bytes is all tokens", Checks.readsAll(row), isGood);
            CHECKS.due("wrong() of " + n + " bytes", row.wrong(), isGood ? -1 : 1);
        }
        // The u behind the end does not make an escape of the \\ before it, which a comment may hold.
        TokenRow row = new TokenRow();
        Checks.feedBytes(row, "//\\u0061".getBytes(StandardCharsets.ISO_8859_1));
        row.end(3);
        CHECKS.due("read() of a comment up to the \\", row.read(), 0);
        Checks.feedBytes(row, "//\\u0061".getBytes(StandardCharsets.ISO_8859_1));
        row.end(4);
        CHECKS.dueThrow("read() of a comment up to the u", UnsupportedOperationException.class, row::read);
    }

    // "WHITE are 32, 9, 10, 12, 13"
    private static void blanksAreFive() {
        for (char c = 1; c <= 127; c++) {
            boolean isWhite = c == 32 || c == 9 || c == 10 || c == 12 || c == 13;
            for (String blank : new String[] {String.valueOf(c), String.format("\\u%04x", (int) c)}) {
                boolean isNothing = Checks.rowOf(blank).wrong() == -1 && isEmpty(Checks.rowOf(blank));
                CHECKS.due("character " + (int) c + " alone is white", isNothing, isWhite);
                if (isWhite) {
                    CHECKS.dueKinds("a" + blank + "a" + blank, 60, 60);
                }
            }
        }
        for (String other : new String[] {"0000", "0080", "0085", "00a0", "2028", "2029", "3000", "feff", "0120", "2020"}) {
            CHECKS.dueWrongBehind("a \\u" + other + " b", 60);
        }
    }

    private static boolean isEmpty(TokenRow row) {
        try {
            row.kind(0);
            return false;
        } catch (IndexOutOfBoundsException e) {
            return true;
        }
    }

    // "a comment from // up to the next 10 or 13"
    private static void lineCommentGoesUpToTheLineEnd() {
        for (char c = 1; c <= 127; c++) {
            boolean isEnd = c == 10 || c == 13;
            CHECKS.dueKinds("//" + c + "1", isEnd ? new int[] {61} : new int[0]);
            CHECKS.dueKinds(String.format("//\\u%04x1", (int) c), isEnd ? new int[] {61} : new int[0]);
        }
        CHECKS.dueKinds("//\\u00801\\u00851\\u20281\\u010a1\\u0a0d1");
        CHECKS.dueKinds("// a\n1// b\r2// c\r\n3", 61, 61, 61);
        CHECKS.dueKinds("//\\n1\n2", 61);
        CHECKS.dueKinds("//*\n1*/", 61, 99, 100);
    }

    // "or the end"
    private static void lineCommentEndsWithTheText() {
        CHECKS.dueKinds("//");
        CHECKS.dueKinds("1//", 61);
        CHECKS.dueKinds("1//2", 61);
        CHECKS.dueKinds("1//\n", 61);
    }

    // "from a / with a * right behind it to the next * with a / right behind that (behind the first two)"
    private static void otherCommentEndsBehindItsFirstTwo() {
        CHECKS.dueKinds("/**/");
        CHECKS.dueKinds("/**/1", 61);
        CHECKS.dueKinds("/***/1/****/2", 61, 61);
        CHECKS.dueKinds("/*/*/1", 61);
        CHECKS.dueKinds("/*/**/1*/", 61, 99, 100);
        CHECKS.dueKinds("/* * / *\n/ // */1", 61);
        CHECKS.dueKinds("/*\\u002a\\u002f1", 61);
        CHECKS.dueKinds("/ *1", 100, 99, 61);
    }

    // "without that it is no TOKEN"
    private static void otherCommentWithoutEndIsNoToken() {
        for (String open : new String[] {"/*", "/*/", "/**", "/* ", "/* *", "/*/ *", "/*\n", "/* * /"}) {
            CHECKS.dueWrongBehind(open);
            CHECKS.dueWrongBehind("a " + open, 60);
            CHECKS.dueWrongBehind("a /**/ b " + open, 60, 60);
        }
    }

    private static void slashAloneIsNoComment() {
        CHECKS.dueKinds("/", 100);
        CHECKS.dueKinds("a/", 60, 100);
        CHECKS.dueKinds("/ /", 100, 100);
        CHECKS.dueKinds("/=/", 109, 100);
    }
}
