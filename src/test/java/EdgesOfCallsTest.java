import java.nio.charset.StandardCharsets;
import java.util.Arrays;

/** The boundary cases and refused calls that the promises 1 to 10 name: a method for each of them. */
public final class EdgesOfCallsTest {
    private static final Checks CHECKS = new Checks();
    private static final int[] FAR_PLACES = {Integer.MIN_VALUE, Integer.MIN_VALUE + 1, -8192, -2, -1};

    public static void main(String[] args) {
        newOneHasAnEmptyText();
        newOneHasNoTokens();
        feedTakesAnyInts();
        feedCountsSinceTheLatestEnd();
        feedRefusesMoreThan81920();
        endTakesAsManyAsCame();
        endRefusesBelowZero();
        endRefusesOtherBytes();
        endForgetsWhatWasBehind();
        refusedEndChangesNothing();
        readBeforeAnEndIsEmpty();
        readUsesTheTextUp();
        readCountsUpTo8193();
        readKeepsWhatStandsBeforeTheWrong();
        wrongIsMinusOneWithoutWrong();
        wrongCountsAll();
        placesOfTokens();
        gluedIsFalseOfTheFirst();
        valueOfTheLeastInts();
        valueOfEmptyOnesAndOthers();
        atOfTheFirstAndLastCharacter();
        atOfOthers();
        sameIsTheFirstBefore();
        sameIsMinusOneWithout();
        refusedPlacesChangeNothing();
        CHECKS.finish();
    }

    private static byte[] bytesOf(String text) {
        return text.getBytes(StandardCharsets.ISO_8859_1);
    }

    private static void feed(TokenRow row, String text) {
        Checks.feedBytes(row, bytesOf(text));
    }

    private static TokenRow fed(String text) {
        TokenRow row = new TokenRow();
        feed(row, text);
        return row;
    }

    private static void dueRefusedEnd(TokenRow row, int n) {
        CHECKS.dueThrow("end(" + n + ")", IllegalArgumentException.class, () -> row.end(n));
    }

    /** There are so many tokens for each of the five calls that ask for one. */
    private static void dueTokens(String what, TokenRow row, int count) {
        if (count > 0) {
            CHECKS.due(what + ": the last has a kind", row.kind(count - 1) > 0, true);
            row.glued(count - 1);
            row.value(count - 1);
            row.same(count - 1);
        }
        dueRefusedPlace(what, row, count);
        dueRefusedPlace(what, row, -1);
    }

    private static void dueRefusedPlace(String what, TokenRow row, int k) {
        CHECKS.dueThrow(what + ": kind(" + k + ")", IndexOutOfBoundsException.class, () -> row.kind(k));
        CHECKS.dueThrow(what + ": glued(" + k + ")", IndexOutOfBoundsException.class, () -> row.glued(k));
        CHECKS.dueThrow(what + ": value(" + k + ")", IndexOutOfBoundsException.class, () -> row.value(k));
        CHECKS.dueThrow(what + ": at(" + k + ", 0)", IndexOutOfBoundsException.class, () -> row.at(k, 0));
        CHECKS.dueThrow(what + ": same(" + k + ")", IndexOutOfBoundsException.class, () -> row.same(k));
    }

    // Promise 1: "THE TEXT is empty"
    private static void newOneHasAnEmptyText() {
        CHECKS.due("read() of a new one", new TokenRow().read(), 0);
        CHECKS.due("end(0) of a new one", new TokenRow().end(0), 0);
        dueRefusedEnd(new TokenRow(), 1);
        TokenRow row = fed("a b c");
        CHECKS.due("read() behind a feed alone", row.read(), 0);
    }

    // Promise 1: "no TOKENS"
    private static void newOneHasNoTokens() {
        dueTokens("a new one", new TokenRow(), 0);
        CHECKS.due("wrong() of a new one", new TokenRow().wrong(), -1);
        TokenRow row = fed("a b c");
        row.end(5);
        dueTokens("before its first read", row, 0);
    }

    // Promise 2: "Twenty bytes, the highest of a first, come"
    private static void feedTakesAnyInts() {
        for (int a : new int[] {Integer.MIN_VALUE, -1, 0, 1, Integer.MAX_VALUE}) {
            TokenRow row = new TokenRow();
            CHECKS.due("feed of " + a, row.feed(a, a, a, a, a), 20);
            // Each of these has a byte of 0 or above 127 among its four.
            dueRefusedEnd(row, 20);
        }
        TokenRow row = new TokenRow();
        row.feed(0x01020304, 0x7f7e7d7c, 0x61626364, 0x31323334, 0x3b3b3b7a);
        CHECKS.due("end(20)", row.end(20), 20);
        for (int place = 0; place < 20; place++) {
            byte[] bytes = bytesOf(" ".repeat(20));
            bytes[place] = 'x';
            TokenRow one = new TokenRow();
            Checks.feedBytes(one, bytes);
            one.end(place);
            CHECKS.due("read() before byte " + place, one.read(), 0);
            Checks.feedBytes(one, bytes);
            one.end(place + 1);
            CHECKS.due("read() up to byte " + place, one.read(), 1);
        }
    }

    // Promise 2: "how many came since the latest end"
    private static void feedCountsSinceTheLatestEnd() {
        TokenRow row = new TokenRow();
        CHECKS.due("first feed", row.feed(0, 0, 0, 0, 0), 20);
        CHECKS.due("second feed", row.feed(0, 0, 0, 0, 0), 40);
        dueRefusedEnd(row, 1);
        CHECKS.due("feed behind a refused end", row.feed(0, 0, 0, 0, 0), 60);
        row.read();
        CHECKS.due("feed behind a read", row.feed(0, 0, 0, 0, 0), 80);
        row.end(0);
        CHECKS.due("feed behind end(0)", row.feed(0x3b3b3b3b, 0, 0, 0, 0), 20);
        row.end(4);
        CHECKS.due("feed behind end(4)", row.feed(0, 0, 0, 0, 0), 20);
    }

    // Promise 2: "IllegalStateException if there would be more than 81920": beyond 512 calls, and free there, but held.
    private static void feedRefusesMoreThan81920() {
        TokenRow row = new TokenRow();
        feed(row, "a ".repeat(81900 / 2));
        CHECKS.due("feed up to 81920", row.feed(0x61206120, 0x61206120, 0x61206120, 0x61206120, 0x61206162), 81920);
        for (int i = 0; i < 3; i++) {
            CHECKS.dueThrow("feed beyond 81920", IllegalStateException.class, () -> row.feed(0, 0, 0, 0, 0));
        }
        dueRefusedEnd(row, 81921);
        CHECKS.due("end(81920)", row.end(81920), 81920);
        CHECKS.due("feed behind it", row.feed(0, 0, 0, 0, 0), 20);
        CHECKS.due("read()", row.read(), 8193);
    }

    // Promise 3: "IllegalArgumentException if there are not so many"
    private static void endTakesAsManyAsCame() {
        for (int feeds = 0; feeds <= 3; feeds++) {
            TokenRow row = fed(";".repeat(20 * feeds));
            dueRefusedEnd(row, Integer.MAX_VALUE);
            dueRefusedEnd(row, 20 * feeds + 1);
            CHECKS.due("end of all", row.end(20 * feeds), 20 * feeds);
            CHECKS.due("read() of all", row.read(), 20 * feeds);
            dueRefusedEnd(row, 1);
        }
        TokenRow row = fed(";".repeat(60));
        CHECKS.due("end(59)", row.end(59), 59);
        CHECKS.due("read() of 59", row.read(), 59);
    }

    // Promise 3: "n is below 0"
    private static void endRefusesBelowZero() {
        for (TokenRow row : new TokenRow[] {new TokenRow(), fed("a b")}) {
            dueRefusedEnd(row, -1);
            dueRefusedEnd(row, Integer.MIN_VALUE);
            CHECKS.due("end(0)", row.end(0), 0);
            CHECKS.due("read() of nothing", row.read(), 0);
        }
    }

    // Promise 3: "or one of them is not 1 to 127"
    private static void endRefusesOtherBytes() {
        for (int wrong : new int[] {0, 128, 129, 254, 255}) {
            for (int place = 0; place < 40; place++) {
                byte[] bytes = bytesOf(";".repeat(40));
                bytes[place] = (byte) wrong;
                TokenRow row = new TokenRow();
                Checks.feedBytes(row, bytes);
                dueRefusedEnd(row, 40);
                dueRefusedEnd(row, place + 1);
                CHECKS.due("end before byte " + wrong, row.end(place), place);
                CHECKS.due("read() before byte " + wrong, row.read(), place);
            }
        }
        byte[] good = new byte[20];
        Arrays.fill(good, (byte) 1);
        good[19] = 127;
        TokenRow row = new TokenRow();
        Checks.feedBytes(row, good);
        CHECKS.due("end with 1 and 127", row.end(20), 20);
    }

    // Promise 3: "the next to come are the first ones again (what was behind the first n is gone)"
    private static void endForgetsWhatWasBehind() {
        TokenRow row = fed("a b 1 2 3 4 5 6 7 8 ");
        row.end(3);
        dueRefusedEnd(row, 1);
        CHECKS.due("read()", row.read(), 2);
        dueRefusedEnd(row, 1);
        feed(row, "xy");
        CHECKS.due("end(2) of what came next", row.end(2), 2);
        CHECKS.due("read() of what came next", row.read(), 1);
        CHECKS.due("at(0, 0) of it", row.at(0, 0), 'x');
        CHECKS.due("value(0) of it", row.value(0), 2);
    }

    // Promise 3: "nothing changes then"
    private static void refusedEndChangesNothing() {
        TokenRow row = rowInTheMidst();
        TokenRow twin = rowInTheMidst();
        String before = Checks.seen(row);
        for (int n : new int[] {Integer.MIN_VALUE, -1, 11, 20, 21, 40, Integer.MAX_VALUE}) {
            dueRefusedEnd(row, n);
        }
        CHECKS.due("what is seen behind refused ends", Checks.seen(row), before);
        CHECKS.due("feed behind refused ends", row.feed(0x3b3b3b3b, 0, 0, 0, 0), twin.feed(0x3b3b3b3b, 0, 0, 0, 0));
        dueRefusedEnd(row, 40);
        CHECKS.due("read() of the text of before", row.read(), 2);
        twin.read();
        CHECKS.due("what is seen of the text of before", Checks.seen(row), Checks.seen(twin));
        dueRefusedEnd(row, 40);
        CHECKS.due("end(10) of what came", row.end(10), 10);
        twin.end(10);
        CHECKS.due("read() of what came", row.read(), 5);
        twin.read();
        CHECKS.due("what is seen of what came", Checks.seen(row), Checks.seen(twin));
    }

    /** It has tokens up to a wrong place, a text that is not read yet, and bytes for the next, with a 0 behind the tenth. */
    private static TokenRow rowInTheMidst() {
        TokenRow row = Checks.rowOf("abc \"abc\" 12 #");
        feed(row, "x 'y'");
        row.end(5);
        feed(row, "1 2 3 4 5 \0");
        return row;
    }

    // Promise 4: "THE TEXT (empty before an end) is read"
    private static void readBeforeAnEndIsEmpty() {
        TokenRow row = fed("a b c");
        CHECKS.due("read() before an end", row.read(), 0);
        CHECKS.due("wrong() of it", row.wrong(), -1);
        CHECKS.due("end behind it", row.end(5), 5);
        CHECKS.due("read() behind the end", row.read(), 3);
    }

    // Promise 4: "and used up (it is empty then; TOKENS of before are gone)"
    private static void readUsesTheTextUp() {
        TokenRow row = Checks.rowOf("a b c");
        dueTokens("behind a read", row, 3);
        CHECKS.due("a second read()", row.read(), 0);
        dueTokens("behind a second read", row, 0);
        Checks.enter(row, "a b c d");
        CHECKS.due("read() of four", row.read(), 4);
        Checks.enter(row, "a");
        dueTokens("before the next read", row, 4);
        CHECKS.due("read() of one", row.read(), 1);
        dueTokens("behind the next read", row, 1);
        Checks.enter(row, "a #");
        CHECKS.dueThrow("read() of a #", UnsupportedOperationException.class, row::read);
        CHECKS.due("read() behind one that threw", row.read(), 0);
        CHECKS.due("wrong() behind it", row.wrong(), -1);
        dueTokens("behind it", row, 0);
        CHECKS.due("end(0)", row.end(0), 0);
        CHECKS.due("read() of an empty text", row.read(), 0);
    }

    // Promise 4: "how many TOKENS, at most 8193 (if there are more)"
    private static void readCountsUpTo8193() {
        for (int count : new int[] {0, 1, 8191, 8192, 8193, 8194, 10000}) {
            TokenRow row = new TokenRow();
            Checks.enter(row, ";".repeat(count));
            CHECKS.due("read() of " + count, row.read(), Math.min(count, 8193));
            dueTokens("read of " + count, row, Math.min(count, 8192));
            CHECKS.due("wrong() of " + count, row.wrong(), -1);
        }
    }

    // Promise 4: "UnsupportedOperationException if something is no TOKEN: those before are there then"
    private static void readKeepsWhatStandsBeforeTheWrong() {
        for (int count : new int[] {0, 1, 2, 8191, 8192, 8193, 10000}) {
            TokenRow row = new TokenRow();
            Checks.enter(row, ";".repeat(count) + "#a");
            CHECKS.dueThrow("read() of " + count + " and #", UnsupportedOperationException.class, row::read);
            dueTokens(count + " and #", row, Math.min(count, 8192));
        }
        TokenRow row = Checks.rowOf("abc 12 \"abc\" '");
        CHECKS.due("what is seen before the '", Checks.seen(row), Checks.seen(Checks.rowOf("abc 12 \"abc\"")).replace("-1;", "3;"));
    }

    // Promise 5: "-1 if nothing was none, or before any read"
    private static void wrongIsMinusOneWithoutWrong() {
        TokenRow row = fed("#");
        CHECKS.due("wrong() before an end", row.wrong(), -1);
        row.end(1);
        CHECKS.due("wrong() before a read", row.wrong(), -1);
        CHECKS.dueThrow("read() of #", UnsupportedOperationException.class, row::read);
        CHECKS.due("wrong() behind it", row.wrong(), 0);
        CHECKS.due("wrong() again", row.wrong(), 0);
        Checks.enter(row, "a");
        CHECKS.due("wrong() before the next read", row.wrong(), 0);
        row.read();
        CHECKS.due("wrong() of a good text", row.wrong(), -1);
        Checks.enter(row, "a #");
        CHECKS.dueThrow("read() of a #", UnsupportedOperationException.class, row::read);
        row.read();
        CHECKS.due("wrong() of an empty text", row.wrong(), -1);
    }

    // Promise 5: "How many TOKENS there are, all that were looked at, before what is none"
    private static void wrongCountsAll() {
        for (int count : new int[] {0, 1, 8191, 8192, 8193, 8194, 10000}) {
            CHECKS.due("wrong() behind " + count, Checks.rowOf(";".repeat(count) + "#;;").wrong(), count);
        }
    }

    // Promises 6 to 10: "IndexOutOfBoundsException if there is none (at most 8192)", "Thrown as by kind"
    private static void placesOfTokens() {
        TokenRow row = Checks.rowOf("a b a");
        for (int k : FAR_PLACES) {
            dueRefusedPlace("three tokens", row, k);
        }
        for (int k : new int[] {3, 4, 8191, 8192, 8193, Integer.MAX_VALUE - 1, Integer.MAX_VALUE}) {
            dueRefusedPlace("three tokens", row, k);
        }
        CHECKS.due("kind(0)", row.kind(0), 60);
        CHECKS.due("kind(2)", row.kind(2), 60);
        TokenRow full = Checks.rowOf("a" + ";".repeat(8190) + "a b");
        for (int k : new int[] {-1, 8192, 8193, Integer.MAX_VALUE}) {
            dueRefusedPlace("a full row", full, k);
        }
        CHECKS.due("kind(8191)", full.kind(8191), 60);
        CHECKS.due("glued(8191)", full.glued(8191), true);
        CHECKS.due("value(8191)", full.value(8191), 1);
        CHECKS.due("at(8191, 0)", full.at(8191, 0), 'a');
        CHECKS.due("same(8191)", full.same(8191), 0);
    }

    // Promise 7: "false of TOKEN 0"
    private static void gluedIsFalseOfTheFirst() {
        for (String text : new String[] {"a", ";", "1", "\"\"", " a", "/**/a", "\\u0061", "a#"}) {
            CHECKS.due(text + " glued(0)", Checks.rowOf(text).glued(0), false);
        }
        TokenRow row = Checks.rowOf("a;");
        CHECKS.due("glued(1)", row.glued(1), true);
        Checks.enter(row, ";;");
        row.read();
        CHECKS.due("glued(0) of a second text", row.glued(0), false);
        CHECKS.due("glued(1) of a second text", row.glued(1), true);
        for (String between : new String[] {" ", "\t", "\n", "\f", "\r", "/**/", "//\n", "\\u0020"}) {
            CHECKS.due("glued(1) behind " + between, Checks.rowOf("a" + between + "b").glued(1), false);
        }
    }

    // Promise 8: "2147483648 and 9223372036854775808 of base 10 as they would be negated: their bits"
    private static void valueOfTheLeastInts() {
        CHECKS.dueOne("2147483647", 61, 2147483647L);
        CHECKS.dueOne("2147483648", 61, -2147483648L);
        CHECKS.dueOne("2147483648L", 62, 2147483648L);
        CHECKS.dueOne("9223372036854775807L", 62, Long.MAX_VALUE);
        CHECKS.dueOne("9223372036854775808L", 62, Long.MIN_VALUE);
        CHECKS.dueOne("0x80000000", 61, -2147483648L);
        CHECKS.dueOne("0x80000000L", 62, 2147483648L);
        CHECKS.dueOne("0xffffffff", 61, -1);
        CHECKS.dueOne("0xffffffffffffffffL", 62, -1);
        CHECKS.dueKinds("-2147483648", 98, 61);
    }

    // Promise 8: "of a STRING, NAME or WORD how many characters; 0 of others"
    private static void valueOfEmptyOnesAndOthers() {
        CHECKS.dueOne("\"\"", 66, 0);
        CHECKS.dueOne("\"" + "a".repeat(4000) + "\"", 66, 4000);
        CHECKS.dueOne("a", 60, 1);
        CHECKS.dueOne("a".repeat(200), 60, 200);
        CHECKS.dueOne("do", 13, 2);
        CHECKS.dueOne("synchronized", 42, 12);
        CHECKS.dueOne("(", 70, 0);
        CHECKS.dueOne("<<=", 114, 0);
        CHECKS.dueOne("'\\u0000'", 65, 0);
        CHECKS.dueOne("'\\uffff'", 65, 65535);
    }

    // Promise 9: "character i (from 0). IndexOutOfBoundsException if there is none"
    private static void atOfTheFirstAndLastCharacter() {
        dueEnds("\"a\"", 'a', 'a', 1);
        dueEnds("b", 'b', 'b', 1);
        dueEnds("do", 'd', 'o', 2);
        dueEnds("x" + "y".repeat(198) + "z", 'x', 'z', 200);
        dueEnds("\"x" + "y".repeat(3998) + "z\"", 'x', 'z', 4000);
        dueEnds("\"\\u0000\\uffff\"", 0, 65535, 2);
        dueEnds("\"\\\"\\n\\377\"", '"', 255, 3);
        TokenRow empty = Checks.rowOf("\"\" a");
        for (int i : new int[] {Integer.MIN_VALUE, -1, 0, 1, 3, Integer.MAX_VALUE}) {
            CHECKS.dueThrow("at(0, " + i + ") of none", IndexOutOfBoundsException.class, () -> empty.at(0, i));
        }
    }

    private static void dueEnds(String token, int first, int last, int length) {
        TokenRow row = Checks.rowOf("; " + token + " abc");
        CHECKS.due(Checks.shown(token) + " at(1, 0)", row.at(1, 0), first);
        CHECKS.due(Checks.shown(token) + " at(1, " + (length - 1) + ")", row.at(1, length - 1), last);
        for (int i : new int[] {Integer.MIN_VALUE, -1, length, length + 1, Integer.MAX_VALUE}) {
            CHECKS.dueThrow(Checks.shown(token) + " at(1, " + i + ")", IndexOutOfBoundsException.class, () -> row.at(1, i));
        }
    }

    // Promise 9: "also of others"
    private static void atOfOthers() {
        TokenRow row = Checks.rowOf("1 1L 1f 1d 'a' ( <<= 12345 0x1F");
        for (int k = 0; k < 9; k++) {
            for (int i : new int[] {Integer.MIN_VALUE, -1, 0, 1, Integer.MAX_VALUE}) {
                int token = k;
                CHECKS.dueThrow("at(" + k + ", " + i + ")", IndexOutOfBoundsException.class, () -> row.at(token, i));
            }
        }
        CHECKS.due("kind(8)", row.kind(8), 61);
    }

    // Promise 10: "The first TOKEN before k ... (a NAME and a STRING may be alike)"
    private static void sameIsTheFirstBefore() {
        TokenRow row = Checks.rowOf("a b a \"a\" a int \"int\" int \"\" \"\" \"b\" \"b\"");
        int[] due = {-1, -1, 0, 0, 0, -1, 5, 5, -1, 8, 1, 1};
        for (int k = 0; k < due.length; k++) {
            CHECKS.due("same(" + k + ")", row.same(k), due[k]);
        }
        String longest = "x".repeat(199);
        TokenRow names = Checks.rowOf(longest + "y " + longest + "z " + longest + " " + longest + "z " + longest + "y");
        CHECKS.due("same(3) of long names", names.same(3), 1);
        CHECKS.due("same(4) of long names", names.same(4), 0);
        CHECKS.due("same(2) of a shorter one", names.same(2), -1);
        String string = "\"" + "s".repeat(3999);
        TokenRow strings = Checks.rowOf(string + "t\" " + string + "u\" ");
        CHECKS.due("same(1) of long strings", strings.same(1), -1);
        TokenRow alike = Checks.rowOf(string + "t\" " + string + "\\u0074\" ");
        CHECKS.due("same(1) of long strings that are alike", alike.same(1), 0);
    }

    // Promise 10: "-1 without, or of others"
    private static void sameIsMinusOneWithout() {
        TokenRow row = Checks.rowOf("\"1\" 1 1 \"+\" + + \"x\" 'x' 'x' 1L 1L 1f 1f 1d 1d a aa A ( (");
        for (int k = 0; k < 20; k++) {
            CHECKS.due("same(" + k + ")", row.same(k), -1);
        }
        Checks.enter(row, "a");
        row.read();
        CHECKS.due("same(0) of a next text", row.same(0), -1);
    }

    private static void refusedPlacesChangeNothing() {
        TokenRow row = rowInTheMidst();
        String before = Checks.seen(row);
        for (int k : new int[] {Integer.MIN_VALUE, -1, 3, 8192, Integer.MAX_VALUE}) {
            dueRefusedPlace("in the midst", row, k);
        }
        CHECKS.due("what is seen behind refused places", Checks.seen(row), before);
        CHECKS.due("read() behind them", row.read(), 2);
        CHECKS.due("end(10) behind them", row.end(10), 10);
        CHECKS.due("read() of the next", row.read(), 5);
    }
}
