/** The boundary cases that "Terms" names of NAMES, CHARACTERS, STRINGS, SIGNS and how many are kept. */
public final class EdgesOfTokensTest {
    private static final Checks CHECKS = new Checks();
    private static final String LETTERS = "abcdefghijklmnopqrstuvwxyzABCDEFGHIJKLMNOPQRSTUVWXYZ_$";
    private static final String DIGITS = "0123456789";
    private static final String NOT_SAID = "\n\r";

    public static void main(String[] args) {
        namesAreOfTheseCharacters();
        namesAreOfCharactersBelow128();
        namesAreOf200();
        charactersAreOne();
        stringsAreOf4000();
        escapesAreThese();
        octalEscapesAreUpTo377();
        lineEndsStandInNoQuotes();
        quotesEnd();
        signsAreAsLongAsTheyCanBe();
        keptAre8192();
        moreAreLookedAt();
        CHECKS.finish();
    }

    // "NAMES, of a to z, A to Z, _, $, and 0 to 9 (not first)"
    private static void namesAreOfTheseCharacters() {
        for (char c = 1; c <= 127; c++) {
            boolean isLetter = LETTERS.indexOf(c) >= 0;
            boolean isDigit = DIGITS.indexOf(c) >= 0;
            for (String one : new String[] {String.valueOf(c), String.format("\\u%04x", (int) c)}) {
                CHECKS.due(one + " is a name", firstLength(one), isLetter ? 1 : 0);
                CHECKS.due("x" + one + " is a name", firstLength("x" + one), isLetter || isDigit ? 2 : 1);
            }
        }
        CHECKS.dueOne("0", 61, 0);
        CHECKS.dueKinds("0x_ 9a", 61, 60, 61, 60);
    }

    private static long firstLength(String text) {
        TokenRow row = Checks.rowOf(text);
        try {
            return row.kind(0) == 60 ? row.value(0) : 0;
        } catch (IndexOutOfBoundsException e) {
            return 0;
        }
    }

    private static void namesAreOfCharactersBelow128() {
        for (String other : new String[] {"0000", "0080", "00b5", "00e9", "0131", "0161", "0430", "0661", "2161", "ff21"}) {
            CHECKS.dueWrongBehind("\\u" + other);
            CHECKS.dueWrongBehind("a\\u" + other, 60);
            CHECKS.dueWrongBehind("1\\u" + other, 61);
        }
    }

    // "at most 200 characters (a longer one is no TOKEN)"
    private static void namesAreOf200() {
        CHECKS.dueSpelled("a", 60, "a");
        for (String one : new String[] {"a", "Z", "_", "$", "\\u0061"}) {
            CHECKS.dueOne(one.repeat(199), 60, 199);
            CHECKS.dueOne(one.repeat(200), 60, 200);
            CHECKS.dueWrongBehind(one.repeat(201));
            CHECKS.dueWrongBehind("1 " + one.repeat(201) + " 2", 61);
        }
        CHECKS.dueOne("a" + "0".repeat(199), 60, 200);
        CHECKS.dueWrongBehind("a" + "0".repeat(200));
        CHECKS.dueKinds("a".repeat(200) + " " + "a".repeat(200) + "+" + "a".repeat(200), 60, 60, 97, 60);
        CHECKS.dueWrongBehind("1" + "_".repeat(201), 61);
        CHECKS.dueKinds("1" + "_".repeat(200), 61, 60);
        CHECKS.dueWrongBehind("int" + "t".repeat(198));
    }

    // "CHARACTERS (one, between ')"
    private static void charactersAreOne() {
        CHECKS.dueWrongBehind("''");
        CHECKS.dueOne("'a'", 65, 'a');
        CHECKS.dueWrongBehind("'aa'");
        CHECKS.dueWrongBehind("'\\n\\n'");
        CHECKS.dueWrongBehind("'\\u0061\\u0061'");
        CHECKS.dueWrongBehind("'''");
        CHECKS.dueWrongBehind("'\\u0027'");
        CHECKS.dueOne("\\u0027a\\u0027", 65, 'a');
        for (char c = 1; c <= 127; c++) {
            String text = "'" + c + "'";
            if (c == '\'' || c == '\\' || NOT_SAID.indexOf(c) >= 0) {
                CHECKS.dueWrongBehind(text);
            } else {
                CHECKS.dueOne(text, 65, c);
            }
        }
    }

    // "STRINGS (at most 4000, between \")"
    private static void stringsAreOf4000() {
        CHECKS.dueSpelled("\"\"", 66, "");
        CHECKS.dueSpelled("\"a\"", 66, "a");
        for (String one : new String[] {"a", "\\n", "\\7", "'"}) {
            CHECKS.dueOne("\"" + one.repeat(3999) + "\"", 66, 3999);
            CHECKS.dueOne("\"" + one.repeat(4000) + "\"", 66, 4000);
            CHECKS.dueWrongBehind("\"" + one.repeat(4001) + "\"");
        }
        CHECKS.dueOne("\"" + "a".repeat(3999) + "\\u0061\"", 66, 4000);
        CHECKS.dueWrongBehind("\"" + "a".repeat(4000) + "\\u0061\"");
        CHECKS.dueOne("\"" + "a".repeat(3999) + "\\177\"", 66, 4000);
        CHECKS.dueWrongBehind("\"" + "a".repeat(4000) + "\\177\"");
        CHECKS.dueWrongBehind("a \"" + "a".repeat(5000) + "\" b", 60);
        for (char c = 1; c <= 127; c++) {
            String text = "\"" + c + "\"";
            if (c == '"' || c == '\\' || NOT_SAID.indexOf(c) >= 0) {
                CHECKS.due(Checks.shown(text) + " is read", Checks.rowOf(text).wrong() == -1, false);
            } else {
                CHECKS.dueSpelled(text, 66, String.valueOf(c));
            }
        }
    }

    // "with escapes (JLS 3.10.6"
    private static void escapesAreThese() {
        String letters = "btnfr\"'\\";
        String said = "\b\t\n\f\r\"'\\";
        for (char c = 1; c <= 127; c++) {
            int place = letters.indexOf(c);
            if (place >= 0) {
                CHECKS.dueOne("'\\" + c + "'", 65, said.charAt(place));
                CHECKS.dueSpelled("\"\\" + c + "\"", 66, said.substring(place, place + 1));
            } else if (c < '0' || c > '7') {
                CHECKS.dueWrongBehind("'\\" + c + "'");
                CHECKS.dueWrongBehind("\"\\" + c + "\"");
            }
        }
        CHECKS.dueWrongBehind("'\\\\u0062'");
        CHECKS.dueWrongBehind("\"\\");
        CHECKS.dueWrongBehind("'\\");
    }

    // "octal ones too"
    private static void octalEscapesAreUpTo377() {
        for (int value = 0; value < 512; value++) {
            String three = "" + (value >> 6) + (value >> 3 & 7) + (value & 7);
            String said = value <= 255 ? "" + (char) value : "" + (char) (value >> 3) + three.charAt(2);
            CHECKS.dueSpelled("\"\\" + three + "\"", 66, said);
            CHECKS.dueSpelled("\"\\" + three + "7\"", 66, said + "7");
        }
        for (int value = 0; value < 64; value++) {
            String two = "" + (value >> 3) + (value & 7);
            CHECKS.dueOne("'\\" + two + "'", 65, value);
            CHECKS.dueSpelled("\"\\" + two + "8\"", 66, (char) value + "8");
            CHECKS.dueSpelled("\"\\" + two + "/\"", 66, (char) value + "/");
        }
        for (int value = 0; value < 8; value++) {
            CHECKS.dueOne("'\\" + value + "'", 65, value);
            CHECKS.dueSpelled("\"\\" + value + "8\"", 66, (char) value + "8");
        }
        CHECKS.dueOne("'\\377'", 65, 255);
        CHECKS.dueWrongBehind("'\\400'");
        CHECKS.dueWrongBehind("'\\0000'");
        CHECKS.dueWrongBehind("'\\8'");
    }

    // "without 10 and 13 (that an escape with u may stand for, too)"
    private static void lineEndsStandInNoQuotes() {
        for (String end : new String[] {"\n", "\r", "\\u000a", "\\u000d", "\\uu000A", "\\u000D"}) {
            CHECKS.dueWrongBehind("'" + end + "'");
            CHECKS.dueWrongBehind("\"" + end + "\"");
            CHECKS.dueWrongBehind("\"a" + end + "b\"");
            CHECKS.dueWrongBehind("'\\u005c" + end + "'");
            CHECKS.dueWrongBehind("\"\\u005c" + end + "\"");
            CHECKS.dueWrongBehind("\"a" + end);
        }
        for (String other : new String[] {"\t", "\u000b", "\f", "\u000e", "\\u0009", "\\u000b", "\\u000c", "\\u000e"}) {
            CHECKS.due("' with " + other, Checks.rowOf("'" + other + "'").wrong(), -1);
            CHECKS.due("\" with " + other, Checks.rowOf("\"" + other + "\"").wrong(), -1);
        }
        CHECKS.dueSpelled("\"\\n\\r\\12\\15\\u2028\\u0085\"", 66, "\n\r\n\r\u2028\u0085");
        CHECKS.dueOne("'\\12'", 65, 10);
        CHECKS.dueOne("'\\15'", 65, 13);
    }

    private static void quotesEnd() {
        for (String open : new String[] {"'", "'a", "'\\'", "'\\", "'\\1", "\"", "\"a", "\"\\\"", "\"\\1", "\"'"}) {
            CHECKS.dueWrongBehind(open);
            CHECKS.dueWrongBehind("a " + open, 60);
        }
        CHECKS.dueKinds("\"\"\"\"", 66, 66);
        CHECKS.dueKinds("'a''b'", 65, 65);
        CHECKS.dueWrongBehind("\"\"\"", 66);
    }

    // "TOKENS, each as long as it can be"
    private static void signsAreAsLongAsTheyCanBe() {
        CHECKS.dueKinds(".", 78);
        CHECKS.dueKinds("..", 78, 78);
        CHECKS.dueKinds("...", 79);
        CHECKS.dueKinds("....", 79, 78);
        CHECKS.dueKinds("<", 84);
        CHECKS.dueKinds("<<", 105);
        CHECKS.dueKinds("<<=", 114);
        CHECKS.dueKinds("<<<", 105, 84);
        CHECKS.dueKinds("<<==", 114, 82);
        CHECKS.dueKinds(">>", 83, 83);
        CHECKS.dueKinds(">=", 83, 82);
        CHECKS.dueKinds("::", 81);
        CHECKS.dueKinds(":::", 81, 88);
        CHECKS.dueKinds("intx int", 60, 27);
        CHECKS.dueKinds("in", 60);
        CHECKS.dueKinds("1.", 64);
        CHECKS.dueKinds("1.e1f", 63);
    }

    // "There are at most 8192"
    private static void keptAre8192() {
        for (int count = 8190; count <= 8194; count++) {
            TokenRow row = Checks.rowOf("a" + ";".repeat(count - 2) + "a");
            int last = count - 1;
            if (last < 8192) {
                CHECKS.due("kind(" + last + ")", row.kind(last), 60);
                CHECKS.due("glued(" + last + ")", row.glued(last), true);
                CHECKS.due("value(" + last + ")", row.value(last), 1);
                CHECKS.due("at(" + last + ", 0)", row.at(last, 0), 'a');
                CHECKS.due("same(" + last + ")", row.same(last), 0);
            }
            int behind = Math.min(count, 8192);
            CHECKS.dueThrow("kind(" + behind + ")", IndexOutOfBoundsException.class, () -> row.kind(behind));
            CHECKS.dueThrow("glued(" + behind + ")", IndexOutOfBoundsException.class, () -> row.glued(behind));
            CHECKS.dueThrow("value(" + behind + ")", IndexOutOfBoundsException.class, () -> row.value(behind));
            CHECKS.dueThrow("at(" + behind + ", 0)", IndexOutOfBoundsException.class, () -> row.at(behind, 0));
            CHECKS.dueThrow("same(" + behind + ")", IndexOutOfBoundsException.class, () -> row.same(behind));
        }
    }

    // "more are looked at, but not kept"
    private static void moreAreLookedAt() {
        String[] wrongs = {"#", "''", "2147483649", "\"", "/*", "\\u", "a".repeat(201), "1e999"};
        for (String wrong : wrongs) {
            for (int count = 8191; count <= 8194; count++) {
                TokenRow row = new TokenRow();
                Checks.enter(row, ";".repeat(count) + wrong);
                CHECKS.dueThrow("read() of " + count + " and " + wrong, UnsupportedOperationException.class, row::read);
                CHECKS.due("wrong() of " + count + " and " + wrong, row.wrong(), count);
            }
        }
        TokenRow row = new TokenRow();
        Checks.enter(row, ";".repeat(8192) + "\"\\101\" 'a' 1.5e3 0x1F b /**/ //");
        CHECKS.due("read() of tokens behind 8192", row.read(), 8193);
        CHECKS.due("wrong() of them", row.wrong(), -1);
        CHECKS.due("kind(8191)", row.kind(8191), 76);
    }
}
