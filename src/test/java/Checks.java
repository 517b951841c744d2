import java.nio.ByteBuffer;
import java.nio.charset.StandardCharsets;
import java.util.Arrays;

/** What the tests share: it brings texts into rows, and counts the answers that are not as due. */
final class Checks {
    interface Call {
        void make();
    }

    private int failures;

    /** As README.md shows it. */
    static void feedBytes(TokenRow row, byte[] bytes) {
        for (int i = 0; i < bytes.length; i += 20) {
            ByteBuffer twenty = ByteBuffer.wrap(Arrays.copyOfRange(bytes, i, i + 20));
            row.feed(twenty.getInt(), twenty.getInt(), twenty.getInt(), twenty.getInt(), twenty.getInt());
        }
    }

    static void enter(TokenRow row, String text) {
        feedBytes(row, text.getBytes(StandardCharsets.ISO_8859_1));
        row.end(text.length());
    }

    /** A new row that has read the text, all of it or up to what is no token. */
    static TokenRow rowOf(String text) {
        TokenRow row = new TokenRow();
        enter(row, text);
        readsAll(row);
        return row;
    }

    static boolean readsAll(TokenRow row) {
        try {
            row.read();
            return true;
        } catch (UnsupportedOperationException e) {
            return false;
        }
    }

    /** Whether a broken number is 0 as it stands there, before anything is rounded. */
    static boolean isWrittenZero(String number) {
        boolean isHex = number.matches("0[xX].*");
        String significand = isHex ? number.substring(2).split("[pP]")[0] : number.split("[eEfFdD]")[0];
        return !significand.matches(".*[1-9a-fA-F].*");
    }

    void due(String what, long got, long want) {
        if (got != want) {
            fail(what + " answered " + got + ", due is " + want);
        }
    }

    void due(String what, boolean got, boolean want) {
        due(what, got ? 1 : 0, want ? 1 : 0);
    }

    void dueThrow(String what, Class<? extends RuntimeException> want, Call call) {
        try {
            call.make();
        } catch (RuntimeException e) {
            if (e.getClass() != want) {
                fail(what + " threw " + e + ", due is " + want.getSimpleName());
            }
            return;
        }
        fail(what + " threw nothing, due is " + want.getSimpleName());
    }

    /** The text is all tokens, of these kinds. */
    void dueKinds(String text, int... kinds) {
        duePart(text, -1, kinds);
    }

    /** The text begins with tokens of these kinds, and goes on with what is no token. */
    void dueWrongBehind(String text, int... kinds) {
        duePart(text, kinds.length, kinds);
    }

    private void duePart(String text, int wrong, int... kinds) {
        TokenRow row = rowOf(text);
        due(shown(text) + " wrong()", row.wrong(), wrong);
        for (int k = 0; k < kinds.length; k++) {
            int token = k;
            try {
                due(shown(text) + " kind(" + k + ")", row.kind(token), kinds[k]);
            } catch (IndexOutOfBoundsException e) {
                fail(shown(text) + " has no token " + k);
            }
        }
        dueThrow(shown(text) + " kind(" + kinds.length + ")", IndexOutOfBoundsException.class,
            () -> row.kind(kinds.length));
    }

    /** The text is one token, of this kind and value. */
    void dueOne(String text, int kind, long value) {
        TokenRow row = rowOf(text);
        due(shown(text) + " wrong()", row.wrong(), -1);
        try {
            due(shown(text) + " kind(0)", row.kind(0), kind);
            due(shown(text) + " value(0)", row.value(0), value);
        } catch (IndexOutOfBoundsException e) {
            fail(shown(text) + " has no token");
        }
        dueThrow(shown(text) + " kind(1)", IndexOutOfBoundsException.class, () -> row.kind(1));
    }

    /** The text is one token of this kind (a name, a word or a string), with these characters. */
    void dueSpelled(String text, int kind, String characters) {
        dueOne(text, kind, characters.length());
        TokenRow row = rowOf(text);
        for (int i = 0; i < characters.length(); i++) {
            int place = i;
            try {
                due(shown(text) + " at(0, " + i + ")", row.at(0, place), characters.charAt(i));
            } catch (IndexOutOfBoundsException e) {
                fail(shown(text) + " has no character " + i);
            }
        }
        dueThrow(shown(text) + " at(0, " + characters.length() + ")", IndexOutOfBoundsException.class,
            () -> row.at(0, characters.length()));
    }

    /** All that calls can tell of the tokens without a change. */
    static String seen(TokenRow row) {
        StringBuilder all = new StringBuilder("wrong " + row.wrong());
        try {
            for (int k = 0; k < 8193; k++) {
                all.append("; ").append(row.kind(k)).append(' ').append(row.glued(k)).append(' ').append(row.value(k));
                all.append(' ').append(row.same(k)).append(' ').append(spelling(row, k));
            }
        } catch (IndexOutOfBoundsException e) {
            // So many tokens there are.
        }
        return all.toString();
    }

    private static String spelling(TokenRow row, int k) {
        StringBuilder characters = new StringBuilder();
        try {
            for (int i = 0; i < 4001; i++) {
                characters.append((char) row.at(k, i));
            }
        } catch (IndexOutOfBoundsException e) {
            // So many characters it has.
        }
        return characters.toString();
    }

    void due(String what, String got, String want) {
        if (!got.equals(want)) {
            fail(what + " answered [" + got + "], due is [" + want + "]");
        }
    }

    void fail(String what) {
        failures++;
        System.out.println(what);
    }

    static String shown(String text) {
        return text.length() <= 80 ? "[" + text + "]" : "[" + text.substring(0, 80) + ".. " + text.length() + "]";
    }

    void finish() {
        System.out.println(failures == 0 ? "all answers are as due" : failures + " answers are not as due");
        if (failures != 0) {
            System.exit(1);
        }
    }
}
