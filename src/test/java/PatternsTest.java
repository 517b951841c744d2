import java.math.BigInteger;
import java.util.ArrayList;
import java.util.List;
import java.util.Random;
import java.util.regex.Matcher;
import java.util.regex.Pattern;

/** All promises: texts made of pieces, compared with a second reader that takes the longest of regular expressions. */
public final class PatternsTest {
    private static final int TEXTS = 6000;
    private static final String DIGITS = "[0-9](?:[0-9_]*[0-9])?";
    private static final String HEX = "[0-9a-fA-F](?:[0-9a-fA-F_]*[0-9a-fA-F])?";
    private static final String POWER = "(?:[eE][+-]?" + DIGITS + ")";
    private static final String ESCAPE = "\\\\(?:[btnfr\"'\\\\]|[0-3][0-7][0-7]|[0-7][0-7]?)";
    private static final Pattern UNICODE = Pattern.compile("\\\\u+([0-9a-fA-F]{4})|(\\\\u)|\\\\\\\\|[\\s\\S]");
    private static final Pattern WHITE = Pattern.compile("(?:[ \\t\\n\\f\\r]|//[^\\n\\r]*|/\\*[\\s\\S]*?\\*/)*");
    private static final Pattern NAME = Pattern.compile("[a-zA-Z_$][a-zA-Z_$0-9]*");
    private static final Pattern DECIMAL = Pattern.compile("(0|[1-9](?:[0-9_]*[0-9])?)[lL]?");
    private static final Pattern OCTAL = Pattern.compile("0([0-7_]*[0-7])[lL]?");
    private static final Pattern HEXADECIMAL = Pattern.compile("0[xX](" + HEX + ")[lL]?");
    private static final Pattern BINARY = Pattern.compile("0[bB]([01](?:[01_]*[01])?)[lL]?");
    private static final Pattern BROKEN = Pattern.compile(
        "(?:" + DIGITS + "\\.(?:" + DIGITS + ")?" + POWER + "?[fFdD]?|\\." + DIGITS + POWER + "?[fFdD]?|"
        + DIGITS + POWER + "[fFdD]?|" + DIGITS + POWER + "?[fFdD])");
    private static final Pattern BROKEN_HEX = Pattern.compile(
        "0[xX](?:" + HEX + "\\.?|(?:" + HEX + ")?\\." + HEX + ")[pP][+-]?" + DIGITS + "[fFdD]?");
    private static final Pattern CHARACTER = Pattern.compile("'(?:[^'\\\\\\n\\r]|" + ESCAPE + ")'");
    private static final Pattern STRING = Pattern.compile("\"(?:[^\"\\\\\\n\\r]|" + ESCAPE + ")*\"");
    private static final Pattern SIGN = Pattern.compile(
        "<<=|\\.\\.\\.|::|->|==|<=|!=|&&|\\|\\||\\+\\+|--|<<|\\+=|-=|\\*=|/=|&=|\\|=|\\^=|%=|[(){}\\[\\];,.@=><!~?:+*/&|^%-]");
    private static final List<String> SIGNS = List.of((
        "( ) { } [ ] ; , . ... @ :: = > < ! ~ ? : -> == <= != && || ++ -- + - * / & | ^ % << += -= *= /= &= |= ^= %= <<="
        ).split(" "));
    private static final List<String> WORDS = List.of((
        "abstract assert boolean break byte case catch char class const continue default do double else enum extends "
        + "final finally float for goto if implements import instanceof int interface long native new package private "
        + "protected public return short static strictfp super switch synchronized this throw throws transient try "
        + "void volatile while true false null").split(" "));
    private static final String[][] PIECES = {
        {"0", "1", "7", "9", "_", "x", "0x", "0b", "e", "p", "+", "-", ".", "f", "d", "L", "a", " ", "00", "1e", "P1", "E9"},
        {"\"", "'", "\\", "\\\\", "\\u005c", "u", "\\u0022", "\\u0027", "0041", "3", "77", "n", "a", " ", "\"\"", "'a'",
            "\\\"", "\\u000a", "\\101", "\\uu00e9"},
        {"+", "-", "*", "/", "=", "<", ">", "&", "|", "^", "%", "!", "~", "?", ":", ".", ",", ";", "(", "]", "@", " ", "1"},
        {"/", "*", "/*", "*/", "//", "\n", "\r", "a", " ", "\\u002f", "\\u002a", "\\u000d", "'", "\"", "1", "\\\\u"},
        {"int", "x", "if", "else", " ", " ", "true", "$", "_1", "\"x\"", "\"int\"", "\t", "9", ";", "\\u0069n", "\f", "#"},
    };

    private record Token(int kind, long value, boolean glued, String spelled) {
    }

    private static final Checks CHECKS = new Checks();
    private static final Random CHOICE = new Random(77);

    public static void main(String[] args) {
        int texts = args.length > 0 ? Integer.parseInt(args[0]) : TEXTS;
        for (int i = 0; i < texts; i++) {
            compare(someText());
        }
        CHECKS.finish();
    }

    private static String someText() {
        StringBuilder text = new StringBuilder();
        int mixed = CHOICE.nextInt(4);
        int main = CHOICE.nextInt(PIECES.length);
        int count = 1 + CHOICE.nextInt(20);
        for (int i = 0; i < count; i++) {
            String[] pieces = PIECES[CHOICE.nextInt(4) < mixed ? CHOICE.nextInt(PIECES.length) : main];
            text.append(pieces[CHOICE.nextInt(pieces.length)]);
        }
        return text.toString();
    }

    private static void compare(String text) {
        List<Token> due = new ArrayList<>();
        boolean isGood = readByPatterns(text, due);
        TokenRow row = Checks.rowOf(text);
        String shown = Checks.shown(text);
        CHECKS.due(shown + " wrong()", row.wrong(), isGood ? -1 : due.size());
        CHECKS.dueThrow(shown + " kind behind the last", IndexOutOfBoundsException.class, () -> row.kind(due.size()));
        try {
            for (int k = 0; k < due.size(); k++) {
                compareToken(shown, row, due, k);
            }
        } catch (IndexOutOfBoundsException e) {
            CHECKS.fail(shown + " has fewer tokens than " + due.size());
        }
    }

    private static void compareToken(String shown, TokenRow row, List<Token> tokens, int k) {
        Token due = tokens.get(k);
        CHECKS.due(shown + " kind(" + k + ")", row.kind(k), due.kind);
        CHECKS.due(shown + " value(" + k + ")", row.value(k), due.value);
        CHECKS.due(shown + " glued(" + k + ")", row.glued(k), due.glued);
        int same = -1;
        for (int j = k - 1; j >= 0 && due.spelled != null; j--) {
            same = due.spelled.equals(tokens.get(j).spelled) ? j : same;
        }
        CHECKS.due(shown + " same(" + k + ")", row.same(k), same);
        int length = due.spelled == null ? 0 : due.spelled.length();
        for (int i = 0; i < length; i++) {
            CHECKS.due(shown + " at(" + k + ", " + i + ")", row.at(k, i), due.spelled.charAt(i));
        }
        CHECKS.dueThrow(shown + " at(" + k + ", " + length + ")", IndexOutOfBoundsException.class,
            () -> row.at(k, length));
    }

    private static boolean readByPatterns(String text, List<Token> tokens) {
        StringBuilder source = new StringBuilder();
        boolean isWhole = translate(text, source);
        int behind = 0;
        while (true) {
            int from = behind + Math.max(longest(WHITE, source, behind), 0);
            if (from == source.length()) {
                return isWhole;
            }
            int length = source.indexOf("/*", from) == from ? -1 : addToken(source, from, from == behind, tokens);
            if (length < 0) {
                return false;
            }
            behind = from + length;
        }
    }

    private static boolean translate(String text, StringBuilder source) {
        Matcher matcher = UNICODE.matcher(text);
        while (matcher.find()) {
            if (matcher.group(2) != null) {
                return false;
            }
            String digits = matcher.group(1);
            source.append(digits == null ? matcher.group() : String.valueOf((char) Integer.parseInt(digits, 16)));
        }
        return true;
    }

    private static int longest(Pattern pattern, CharSequence source, int from) {
        Matcher matcher = pattern.matcher(source).region(from, source.length());
        return matcher.lookingAt() ? matcher.end() - from : -1;
    }

    private static int addToken(StringBuilder source, int from, boolean isGlued, List<Token> tokens) {
        Pattern best = SIGN;
        int length = longest(SIGN, source, from);
        for (Pattern pattern : new Pattern[] {
            NAME, DECIMAL, OCTAL, HEXADECIMAL, BINARY, BROKEN, BROKEN_HEX, CHARACTER, STRING}) {
            int other = longest(pattern, source, from);
            if (other > length) {
                best = pattern;
                length = other;
            }
        }
        if (length > 0) {
            Token token = tokenOf(best, source.substring(from, from + length), isGlued && !tokens.isEmpty());
            if (token == null) {
                return -1;
            }
            tokens.add(token);
        }
        return length;
    }

    private static Token tokenOf(Pattern pattern, String written, boolean isGlued) {
        if (pattern == SIGN) {
            return new Token(70 + SIGNS.indexOf(written), 0, isGlued, null);
        }
        if (pattern == NAME) {
            int word = WORDS.indexOf(written);
            return new Token(word < 0 ? 60 : word + 1, written.length(), isGlued, written);
        }
        if (pattern == CHARACTER || pattern == STRING) {
            String said = written.substring(1, written.length() - 1).translateEscapes();
            return pattern == STRING
                ? new Token(66, said.length(), isGlued, said)
                : new Token(65, said.charAt(0), isGlued, null);
        }
        if (pattern == BROKEN || pattern == BROKEN_HEX) {
            return brokenOf(written.replace("_", ""), isGlued);
        }
        return wholeOf(pattern, written, isGlued);
    }

    private static Token brokenOf(String written, boolean isGlued) {
        boolean isFloat = written.matches(".*[fF]");
        double rounded = isFloat ? Float.parseFloat(written) : Double.parseDouble(written);
        if (Double.isInfinite(rounded) || rounded == 0 && !Checks.isWrittenZero(written)) {
            return null;
        }
        long bits = isFloat ? Float.floatToIntBits((float) rounded) : Double.doubleToLongBits(rounded);
        return new Token(isFloat ? 63 : 64, bits, isGlued, null);
    }

    private static Token wholeOf(Pattern pattern, String written, boolean isGlued) {
        boolean isLong = written.matches(".*[lL]");
        Matcher matcher = pattern.matcher(written);
        matcher.matches();
        int base = pattern == DECIMAL ? 10 : pattern == OCTAL ? 8 : pattern == BINARY ? 2 : 16;
        BigInteger number = new BigInteger(matcher.group(1).replace("_", ""), base);
        int width = isLong ? 64 : 32;
        BigInteger tooLarge = base == 10
            ? BigInteger.ONE.shiftLeft(width - 1).add(BigInteger.ONE) : BigInteger.ONE.shiftLeft(width);
        if (number.compareTo(tooLarge) >= 0) {
            return null;
        }
        return new Token(isLong ? 62 : 61, isLong ? number.longValue() : number.intValue(), isGlued, null);
    }
}
