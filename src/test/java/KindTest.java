/** Promise 6. */
public final class KindTest {
    private static final String[] WORDS = {
        "abstract", "assert", "boolean", "break", "byte", "case", "catch", "char", "class", "const", "continue",
        "default", "do", "double", "else", "enum", "extends", "final", "finally", "float", "for", "goto", "if",
        "implements", "import", "instanceof", "int", "interface", "long", "native", "new", "package", "private",
        "protected", "public", "return", "short", "static", "strictfp", "super", "switch", "synchronized", "this",
        "throw", "throws", "transient", "try", "void", "volatile", "while", "true", "false", "null"};
    private static final String[] SIGNS = {
        "(", ")", "{", "}", "[", "]", ";", ",", ".", "...", "@", "::", "=", ">", "<", "!", "~", "?", ":", "->", "==",
        "<=", "!=", "&&", "||", "++", "--", "+", "-", "*", "/", "&", "|", "^", "%", "<<", "+=", "-=", "*=", "/=",
        "&=", "|=", "^=", "%=", "<<="};
    private static final Checks CHECKS = new Checks();

    public static void main(String[] args) {
        tellsWords();
        tellsOtherNames();
        tellsSigns();
        takesTheLongestSign();
        tellsNumbersAndQuotes();
        refusesWrongPlaces();
        CHECKS.finish();
    }

    private static void tellsWords() {
        CHECKS.due("how many words", WORDS.length, 53);
        for (int i = 0; i < WORDS.length; i++) {
            CHECKS.dueKinds(WORDS[i], i + 1);
            CHECKS.dueKinds(WORDS[i] + "1", 60);
            CHECKS.dueKinds("_" + WORDS[i], 60);
            CHECKS.dueKinds(WORDS[i] + ".", i + 1, 78);
            CHECKS.dueKinds(WORDS[i].substring(0, 1).toUpperCase() + WORDS[i].substring(1), 60);
        }
    }

    private static void tellsOtherNames() {
        CHECKS.dueKinds("a z A Z _ $ a0 z9 _$_", 60, 60, 60, 60, 60, 60, 60, 60, 60);
        CHECKS.dueKinds("integer interfac var record String", 60, 60, 60, 60, 60);
        CHECKS.dueKinds("9a", 61, 60);
    }

    private static void tellsSigns() {
        CHECKS.due("how many signs", SIGNS.length, 45);
        for (int i = 0; i < SIGNS.length; i++) {
            CHECKS.dueKinds(SIGNS[i], 70 + i);
            CHECKS.dueKinds("a" + SIGNS[i] + "a", 60, 70 + i, 60);
        }
    }

    private static void takesTheLongestSign() {
        CHECKS.dueKinds(">>>= >= >== >>", 83, 83, 83, 82, 83, 82, 83, 90, 83, 83);
        CHECKS.dueKinds("<<<= <<== <== <-", 105, 91, 114, 82, 91, 82, 84, 98);
        CHECKS.dueKinds("+++= ---> -->", 95, 106, 96, 89, 96, 83);
        CHECKS.dueKinds("::: .. .... ..... &&& &&= |||", 81, 88, 78, 78, 79, 78, 79, 78, 78, 93, 101, 93, 82, 94, 102);
        CHECKS.dueKinds("=== !== ~= ?: @@ ^^", 90, 82, 92, 82, 86, 82, 87, 88, 80, 80, 103, 103);
        CHECKS.dueKinds("*/= /=/ /=/**/=", 99, 109, 109, 100, 109, 82);
    }

    private static void tellsNumbersAndQuotes() {
        CHECKS.dueKinds("1 1L 1l 0x1 0x1L 01 01l 0b1 0B1L", 61, 62, 62, 61, 62, 61, 62, 61, 62);
        CHECKS.dueKinds("1f 1F 1.f .1F 1e1f 0x1p1f", 63, 63, 63, 63, 63, 63);
        CHECKS.dueKinds("1d 1D 1. .1 1e1 1.0e-1D 0X.8P1d 0x1.p+1", 64, 64, 64, 64, 64, 64, 64, 64);
        CHECKS.dueKinds("'a' \"a\" \"\" '\"' \"'\"", 65, 66, 66, 65, 66);
    }

    private static void refusesWrongPlaces() {
        TokenRow row = Checks.rowOf("a b");
        for (int k : new int[] {-1, 2, 8192, Integer.MIN_VALUE, Integer.MAX_VALUE}) {
            CHECKS.dueThrow("kind(" + k + ")", IndexOutOfBoundsException.class, () -> row.kind(k));
        }
    }
}
