/** Promise 2. */
public final class FeedTest {
    private static final Checks CHECKS = new Checks();

    public static void main(String[] args) {
        countsSinceTheLatestEnd();
        takesTheHighestByteFirst();
        refusesWhatIsTooMuch();
        CHECKS.finish();
    }

    private static void countsSinceTheLatestEnd() {
        TokenRow row = new TokenRow();
        CHECKS.due("feed 1", row.feed(-1, 0, Integer.MIN_VALUE, Integer.MAX_VALUE, 1), 20);
        CHECKS.due("feed 2", row.feed(0, 0, 0, 0, 0), 40);
        row.end(0);
        CHECKS.due("feed behind an end", row.feed(0, 0, 0, 0, 0), 20);
        CHECKS.dueThrow("end(1)", IllegalArgumentException.class, () -> row.end(1));
        CHECKS.due("feed behind an end that threw", row.feed(0, 0, 0, 0, 0), 40);
        row.read();
        CHECKS.due("feed behind a read", row.feed(0, 0, 0, 0, 0), 60);
    }

    private static void takesTheHighestByteFirst() {
        TokenRow row = new TokenRow();
        row.feed(0x61626364, 0x65666768, 0x696a6b6c, 0x6d6e6f70, 0x71727374);
        row.feed(0x75767778, 0x797a4142, 0x43444546, 0x4748494a, 0x4b4c4d4e);
        row.end(40);
        row.read();
        String due = "abcdefghijklmnopqrstuvwxyzABCDEFGHIJKLMN";
        CHECKS.due("value(0)", row.value(0), due.length());
        for (int i = 0; i < due.length(); i++) {
            CHECKS.due("at(0, " + i + ")", row.at(0, i), due.charAt(i));
        }
    }

    // It takes more calls than an object is promised for; the limit can't be reached with fewer.
    private static void refusesWhatIsTooMuch() {
        TokenRow row = new TokenRow();
        for (int came = 20; came <= 81920; came += 20) {
            CHECKS.due("feed up to " + came, row.feed(0x3b3b3b3b, 0x3b3b3b3b, 0x3b3b3b3b, 0x3b3b3b3b, 0x3b3b3b3b), came);
        }
        CHECKS.dueThrow("feed beyond 81920", IllegalStateException.class, () -> row.feed(1, 1, 1, 1, 1));
        CHECKS.due("end(81920)", row.end(81920), 81920);
        CHECKS.due("feed behind it", row.feed(1, 1, 1, 1, 1), 20);
        CHECKS.due("read()", row.read(), 8193);
    }
}
