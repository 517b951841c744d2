import java.io.ByteArrayOutputStream;
import java.nio.ByteBuffer;
import java.nio.charset.StandardCharsets;
import java.util.Arrays;
import java.util.Random;

/**
 * Runs of 512 calls in any order: what came, the text and the tokens are kept apart as promises 1 to 5 say, and a row
 * that has read much before tells of a text what a new one tells of it.
 */
public final class MixedCallsTest {
    private static final Checks CHECKS = new Checks();
    private static final Random RANDOM = new Random(9);
    private static final String[] PIECES = {"a ", "int", " ", "\"x\\ty\"", "\"\\u0041\"", "'q'", "1.5e3", "0x1F", "+=",
        ">", "/**/", "//\n", "\n", "\\u0061", "09", "_1", "\"a \"", "#", "\\u00", "/*", "\"", "\u0000", "\u0080", "..."};

    private final TokenRow row = new TokenRow();
    private ByteArrayOutputStream came = new ByteArrayOutputStream();
    private String text = "";
    private TokenRow tells = new TokenRow();

    public static void main(String[] args) {
        for (int run = 0; run < 500; run++) {
            MixedCallsTest mixed = new MixedCallsTest();
            for (int call = 0; call < 512; call++) {
                mixed.makeAnyCall("run " + run + " call " + call + " ");
            }
        }
        CHECKS.finish();
    }

    private void makeAnyCall(String where) {
        switch (RANDOM.nextInt(20)) {
            case 0, 1, 2 -> feed(where);
            case 3, 4 -> end(where, RANDOM.nextInt(came.size() + 3) - 1);
            case 5, 6 -> read(where);
            case 7 -> CHECKS.due(where + "wrong()", row.wrong(), tells.wrong());
            default -> ask(where, RANDOM.nextInt(14) - 1, RANDOM.nextInt(6) - 1);
        }
    }

    private void feed(String where) {
        StringBuilder some = new StringBuilder();
        while (some.length() < 20) {
            // What is wrong stands far behind in the row, so that most texts have tokens.
            some.append(PIECES[RANDOM.nextInt(RANDOM.nextInt(4) == 0 ? PIECES.length : 17)]);
        }
        byte[] bytes = Arrays.copyOf(some.toString().getBytes(StandardCharsets.ISO_8859_1), 20);
        came.writeBytes(bytes);
        ByteBuffer twenty = ByteBuffer.wrap(bytes);
        int count = row.feed(twenty.getInt(), twenty.getInt(), twenty.getInt(), twenty.getInt(), twenty.getInt());
        CHECKS.due(where + "feed", count, came.size());
    }

    private void end(String where, int n) {
        String all = came.toString(StandardCharsets.ISO_8859_1);
        if (n < 0 || n > all.length() || !all.substring(0, n).matches("[\\x01-\\x7f]*")) {
            CHECKS.dueThrow(where + "end(" + n + ")", IllegalArgumentException.class, () -> row.end(n));
            return;
        }
        CHECKS.due(where + "end", row.end(n), n);
        text = all.substring(0, n);
        came = new ByteArrayOutputStream();
    }

    private void read(String where) {
        tells = new TokenRow();
        Checks.enter(tells, text);
        CHECKS.due(where + "read() of " + Checks.shown(text), said(row::read), said(tells::read));
        text = "";
    }

    private void ask(String where, int k, int i) {
        switch (RANDOM.nextInt(5)) {
            case 0 -> CHECKS.due(where + "kind", said(() -> row.kind(k)), said(() -> tells.kind(k)));
            case 1 -> CHECKS.due(where + "glued", said(() -> row.glued(k)), said(() -> tells.glued(k)));
            case 2 -> CHECKS.due(where + "value", said(() -> row.value(k)), said(() -> tells.value(k)));
            case 3 -> CHECKS.due(where + "at", said(() -> row.at(k, i)), said(() -> tells.at(k, i)));
            default -> CHECKS.due(where + "same", said(() -> row.same(k)), said(() -> tells.same(k)));
        }
    }

    private interface Asked {
        Object answer();
    }

    private static String said(Asked asked) {
        try {
            return String.valueOf(asked.answer());
        } catch (RuntimeException e) {
            return "throws " + e.getClass().getSimpleName();
        }
    }
}
