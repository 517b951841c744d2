/** Promise 1. */
public final class NewObjectTest {
    public static void main(String[] args) {
        Checks checks = new Checks();
        TokenRow row = new TokenRow();
        checks.due("wrong() of a new one", row.wrong(), -1);
        checks.dueThrow("kind(0) of a new one", IndexOutOfBoundsException.class, () -> row.kind(0));
        checks.dueThrow("glued(0) of a new one", IndexOutOfBoundsException.class, () -> row.glued(0));
        checks.dueThrow("value(0) of a new one", IndexOutOfBoundsException.class, () -> row.value(0));
        checks.dueThrow("at(0, 0) of a new one", IndexOutOfBoundsException.class, () -> row.at(0, 0));
        checks.dueThrow("same(0) of a new one", IndexOutOfBoundsException.class, () -> row.same(0));
        checks.dueThrow("end(1) of a new one", IllegalArgumentException.class, () -> row.end(1));
        checks.due("read() of a new one", row.read(), 0);
        checks.due("wrong() behind it", row.wrong(), -1);
        checks.due("end(0) of a new one", new TokenRow().end(0), 0);

        Checks.enter(row, "a b");
        row.read();
        TokenRow other = new TokenRow();
        checks.due("read() of another", other.read(), 0);
        checks.due("kind(1) of the first one", row.kind(1), 60);
        checks.finish();
    }
}
