/** A reader of the tokens of Java 8; ../shared/DOC.md tells what each call answers. */
public final class TokenRow {
    private static final int MOST_BYTES = 81920;
    private static final int BYTES_OF_A_FEED = 20;
    private static final int MOST_KEPT = 8192;

    private static final int NONE = -1;

    private static final int NAME = 60;
    private static final int WHOLE = 61;
    private static final int LONG = 62;
    private static final int FLOAT = 63;
    private static final int DOUBLE = 64;
    private static final int CHARACTER = 65;
    private static final int STRING = 66;

    private byte[] coming;
    private int comingCount;
    private byte[] text;
    private int textLength;
    private final Source source;
    private final Store store;
    private final Reader reader;
    private int goodBeforeWrong;

    public TokenRow() {
        coming = new byte[MOST_BYTES];
        text = new byte[MOST_BYTES];
        source = new Source();
        store = new Store();
        reader = new Reader(source, store);
        goodBeforeWrong = NONE;
    }

    public int feed(int a, int b, int c, int d, int e) throws IllegalStateException {
        if (comingCount > MOST_BYTES - BYTES_OF_A_FEED) {
            throw new IllegalStateException();
        }
        gather(a);
        gather(b);
        gather(c);
        gather(d);
        gather(e);
        return comingCount;
    }

    public int end(int n) throws IllegalArgumentException {
        if (n < 0 || n > comingCount || !areCharacters(coming, n)) {
            throw new IllegalArgumentException();
        }
        // The two rows change places, so that bytes that come before the next read leave the text alone.
        byte[] free = text;
        text = coming;
        textLength = n;
        coming = free;
        comingCount = 0;
        return n;
    }

    public int read() throws UnsupportedOperationException {
        store.clear();
        source.fill(text, textLength);
        textLength = 0;
        goodBeforeWrong = reader.takeAll() ? NONE : store.count();
        if (goodBeforeWrong != NONE) {
            throw new UnsupportedOperationException();
        }
        return Math.min(store.count(), MOST_KEPT + 1);
    }

    public int wrong() {
        return goodBeforeWrong;
    }

    public int kind(int k) throws IndexOutOfBoundsException {
        demandToken(k);
        return store.kindOf(k);
    }

    public boolean glued(int k) throws IndexOutOfBoundsException {
        demandToken(k);
        return store.isJoined(k);
    }

    public long value(int k) throws IndexOutOfBoundsException {
        demandToken(k);
        return store.whatSays(k);
    }

    public int at(int k, int i) throws IndexOutOfBoundsException {
        demandToken(k);
        if (i < 0 || i >= store.lengthOf(k)) {
            throw new IndexOutOfBoundsException();
        }
        return source.look(store.startOf(k) + i);
    }

    public int same(int k) throws IndexOutOfBoundsException {
        demandToken(k);
        if (!store.isSpelled(k)) {
            return NONE;
        }
        for (int earlier = 0; earlier < k; earlier++) {
            if (areAlike(earlier, k)) {
                return earlier;
            }
        }
        return NONE;
    }

    private void gather(int fourBytes) {
        for (int shift = 24; shift >= 0; shift -= 8) {
            coming[comingCount] = (byte) (fourBytes >> shift);
            comingCount++;
        }
    }

    private static boolean areCharacters(byte[] bytes, int n) {
        for (int i = 0; i < n; i++) {
            // A byte of 128 to 255 is negative here.
            if (bytes[i] <= 0) {
                return false;
            }
        }
        return true;
    }

    private void demandToken(int k) {
        if (k < 0 || k >= Math.min(store.count(), MOST_KEPT)) {
            throw new IndexOutOfBoundsException();
        }
    }

    private boolean areAlike(int j, int k) {
        int length = store.lengthOf(k);
        if (!store.isSpelled(j) || store.lengthOf(j) != length) {
            return false;
        }
        for (int i = 0; i < length; i++) {
            if (source.look(store.startOf(j) + i) != source.look(store.startOf(k) + i)) {
                return false;
            }
        }
        return true;
    }

    /** What the character is worth as a digit; 16, which no base has, of others. */
    private static int digitOf(int character) {
        if (character >= '0' && character <= '9') {
            return character - '0';
        }
        if (character >= 'a' && character <= 'f') {
            return character - 'a' + 10;
        }
        if (character >= 'A' && character <= 'F') {
            return character - 'A' + 10;
        }
        return 16;
    }

    private static boolean isDecimal(int character) {
        return digitOf(character) < 10;
    }

    private static boolean isLineEnd(int character) {
        return character == '\n' || character == '\r';
    }

    /** The characters of the text, behind the escapes with u (JLS 3.3). */
    private static final class Source {
        private final char[] characters = new char[MOST_BYTES];
        private int count;
        private boolean cutShort;

        int count() {
            return count;
        }

        /** Whether an escape without its four digits ended the text. */
        boolean isCutShort() {
            return cutShort;
        }

        int look(int i) {
            return i >= 0 && i < count ? characters[i] : NONE;
        }

        /** Only for places that have been read: what a string says takes the place of how it was written. */
        void put(int i, int character) {
            if (i >= 0 && i < count) {
                characters[i] = (char) character;
            }
        }

        void fill(byte[] bytes, int n) {
            count = 0;
            cutShort = false;
            int backslashes = 0;
            int i = 0;
            while (i < n && !cutShort) {
                if (bytes[i] == '\\' && backslashes % 2 == 0 && i + 1 < n && bytes[i + 1] == 'u') {
                    i = addEscape(bytes, n, i + 1);
                    backslashes = 0;
                } else {
                    backslashes = bytes[i] == '\\' ? backslashes + 1 : 0;
                    add(bytes[i]);
                    i++;
                }
            }
        }

        private int addEscape(byte[] bytes, int n, int firstU) {
            int i = firstU;
            while (i < n && bytes[i] == 'u') {
                i++;
            }
            int behind = i + 4;
            int character = 0;
            for (; i < behind; i++) {
                int digit = i < n ? digitOf(bytes[i]) : 16;
                if (digit == 16) {
                    cutShort = true;
                    return n;
                }
                character = character * 16 + digit;
            }
            add(character);
            return behind;
        }

        private void add(int character) {
            if (count < characters.length) {
                characters[count] = (char) character;
                count++;
            }
        }
    }

    /** The tokens of the latest read: all are counted, the first ones kept. */
    private static final class Store {
        private final int[] kinds = new int[MOST_KEPT];
        private final boolean[] joined = new boolean[MOST_KEPT];
        private final long[] says = new long[MOST_KEPT];
        private final int[] starts = new int[MOST_KEPT];
        private int count;

        void clear() {
            count = 0;
        }

        int count() {
            return count;
        }

        void add(Found found, boolean isJoined) {
            if (count < MOST_KEPT) {
                kinds[count] = found.kind;
                joined[count] = isJoined;
                says[count] = found.says;
                starts[count] = found.start;
            }
            count++;
        }

        int kindOf(int k) {
            return kinds[k];
        }

        boolean isJoined(int k) {
            return joined[k];
        }

        long whatSays(int k) {
            return says[k];
        }

        int startOf(int k) {
            return starts[k];
        }

        /** Whether it is a name, a word or a string: one with characters to ask for. */
        boolean isSpelled(int k) {
            return kinds[k] <= NAME || kinds[k] == STRING;
        }

        int lengthOf(int k) {
            return isSpelled(k) ? (int) says[k] : 0;
        }
    }

    /** The token that was found last: one object for all of them, so that a read makes none. */
    private static final class Found {
        private int kind;
        private long says;
        private int start;
        private int behind;

        void set(int newKind, long newSays, int newStart, int newBehind) {
            kind = newKind;
            says = newSays;
            start = newStart;
            behind = newBehind;
        }
    }

    /** Goes through the source and tells the tokens apart by their first characters. */
    private static final class Reader {
        private static final int MOST_OF_A_NAME = 200;
        private static final int FIRST_WORD = 1;
        private static final int FIRST_SIGN = 70;
        private static final String WORDS_FROM_1 =
            "abstract assert boolean break byte case catch char class const continue default do double";
        private static final String WORDS_FROM_15 =
            "else enum extends final finally float for goto if implements import instanceof int interface";
        private static final String WORDS_FROM_29 =
            "long native new package private protected public return short static strictfp super switch";
        private static final String WORDS_FROM_42 =
            "synchronized this throw throws transient try void volatile while true false null";
        private static final String SIGNS_FROM_70 =
            "( ) { } [ ] ; , . ... @ :: = > < ! ~ ? : -> == <= != && || ++ -- + - * / & | ^ %";
        private static final String SIGNS_FROM_105 =
            "<< += -= *= /= &= |= ^= %= <<=";

        private final Source source;
        private final Store store;
        private final Found found;
        private final Spellings words;
        private final Spellings signs;
        private final Numbers numbers;
        private final Quotes quotes;

        Reader(Source newSource, Store newStore) {
            source = newSource;
            store = newStore;
            found = new Found();
            words = new Spellings();
            words.addAll(WORDS_FROM_1);
            words.addAll(WORDS_FROM_15);
            words.addAll(WORDS_FROM_29);
            words.addAll(WORDS_FROM_42);
            signs = new Spellings();
            signs.addAll(SIGNS_FROM_70);
            signs.addAll(SIGNS_FROM_105);
            numbers = new Numbers(newSource, found);
            quotes = new Quotes(newSource, found);
        }

        /** Puts the tokens into the store, up to the first place that is none: whether there is no such place. */
        boolean takeAll() {
            int behind = 0;
            // Each turn takes a character at least.
            for (int turn = 0; turn <= source.count(); turn++) {
                int from = behindWhite(behind);
                if (from == NONE) {
                    return false;
                }
                if (from == source.count()) {
                    return !source.isCutShort();
                }
                if (!take(from)) {
                    return false;
                }
                store.add(found, turn > 0 && from == behind);
                behind = found.behind;
            }
            return false;
        }

        /** The first place that is not white, or NONE if a comment does not end. */
        private int behindWhite(int from) {
            int i = from;
            while (i != NONE && i < source.count()) {
                int character = source.look(i);
                int next = source.look(i + 1);
                if (isBlank(character)) {
                    i++;
                } else if (character == '/' && next == '/') {
                    i = behindLine(i + 2);
                } else if (character == '/' && next == '*') {
                    i = behindStarAndSlash(i + 2);
                } else {
                    return i;
                }
            }
            return i;
        }

        private int behindLine(int from) {
            int i = from;
            while (i < source.count() && !isLineEnd(source.look(i))) {
                i++;
            }
            return i;
        }

        private int behindStarAndSlash(int from) {
            for (int i = from; i < source.count(); i++) {
                if (source.look(i) == '*' && source.look(i + 1) == '/') {
                    return i + 2;
                }
            }
            return NONE;
        }

        private boolean take(int from) {
            int first = source.look(from);
            if (isNamePart(first) && !isDecimal(first)) {
                return takeName(from);
            }
            if (isDecimal(first) || first == '.' && isDecimal(source.look(from + 1))) {
                return numbers.measureBroken(from) ? numbers.takeBroken(from) : numbers.takeWhole(from);
            }
            if (first == '\'') {
                return quotes.takeCharacter(from);
            }
            if (first == '"') {
                return quotes.takeString(from);
            }
            return takeSign(from);
        }

        private boolean takeName(int from) {
            int behind = from;
            while (behind < source.count() && isNamePart(source.look(behind))) {
                behind++;
            }
            int length = behind - from;
            int word = words.longest(source, from);
            boolean isWord = word != NONE && words.lengthOf(word) == length;
            found.set(isWord ? FIRST_WORD + word : NAME, length, from, behind);
            return length <= MOST_OF_A_NAME;
        }

        private boolean takeSign(int from) {
            int sign = signs.longest(source, from);
            if (sign == NONE) {
                return false;
            }
            found.set(FIRST_SIGN + sign, 0, from, from + signs.lengthOf(sign));
            return true;
        }

        private static boolean isBlank(int character) {
            return character == ' ' || character == '\t' || character == '\f' || isLineEnd(character);
        }

        private static boolean isNamePart(int character) {
            return character >= 'a' && character <= 'z' || character >= 'A' && character <= 'Z'
                || character == '_' || character == '$' || isDecimal(character);
        }
    }

    /** Texts that are known by their numbers, from 0. */
    private static final class Spellings {
        private final char[] characters = new char[512];
        private final int[] starts = new int[65];
        private int count;

        /** Takes texts with a blank between each two. */
        void addAll(String texts) {
            int behind = starts[count];
            for (int i = 0; i < texts.length(); i++) {
                if (texts.charAt(i) == ' ') {
                    close(behind);
                } else if (behind < characters.length) {
                    characters[behind] = texts.charAt(i);
                    behind++;
                }
            }
            close(behind);
        }

        private void close(int behind) {
            if (count + 1 < starts.length) {
                count++;
                starts[count] = behind;
            }
        }

        int lengthOf(int number) {
            return starts[number + 1] - starts[number];
        }

        /** The longest of them that the source goes on with, or NONE. */
        int longest(Source source, int from) {
            int first = source.look(from);
            int best = NONE;
            for (int number = 0; number < count; number++) {
                // Most are told by the first character; to compare all the others whole would take far longer.
                if (characters[starts[number]] == first && isThere(number, source, from)
                    && (best == NONE || lengthOf(number) > lengthOf(best))) {
                    best = number;
                }
            }
            return best;
        }

        private boolean isThere(int number, Source source, int from) {
            int start = starts[number];
            for (int i = start; i < starts[number + 1]; i++) {
                if (source.look(from + i - start) != characters[i]) {
                    return false;
                }
            }
            return true;
        }
    }

    /** Reads characters and strings, with their escapes (JLS 3.10.6). */
    private static final class Quotes {
        private static final int MOST_OF_A_STRING = 4000;

        private final Source source;
        private final Found found;
        private int character;

        Quotes(Source newSource, Found newFound) {
            source = newSource;
            found = newFound;
        }

        boolean takeCharacter(int from) {
            if (source.look(from + 1) == '\'') {
                return false;
            }
            int behind = behindOne(from + 1);
            if (behind == NONE || source.look(behind) != '\'') {
                return false;
            }
            found.set(CHARACTER, character, from, behind + 1);
            return true;
        }

        boolean takeString(int from) {
            int start = from + 1;
            int next = start;
            for (int length = 0; length <= MOST_OF_A_STRING; length++) {
                if (source.look(next) == '"') {
                    found.set(STRING, length, start, next + 1);
                    return true;
                }
                next = behindOne(next);
                if (next == NONE) {
                    return false;
                }
                source.put(start + length, character);
            }
            return false;
        }

        /** Sets the character that is written there, with an escape or without: the place behind it, or NONE. */
        private int behindOne(int from) {
            character = source.look(from);
            if (character == NONE || isLineEnd(character)) {
                return NONE;
            }
            return character == '\\' ? behindEscape(from + 1) : from + 1;
        }

        private int behindEscape(int from) {
            int letter = source.look(from);
            if (digitOf(letter) < 8) {
                return behindOctal(from);
            }
            character = escaped(letter);
            return character == NONE ? NONE : from + 1;
        }

        private int behindOctal(int from) {
            // Three digits only up to \377: more would be no character of the escapes.
            int most = source.look(from) <= '3' ? 3 : 2;
            character = 0;
            int i = from;
            while (i < from + most && digitOf(source.look(i)) < 8) {
                character = character * 8 + digitOf(source.look(i));
                i++;
            }
            return i;
        }

        private static int escaped(int letter) {
            switch (letter) {
                case 'b':
                    return '\b';
                case 't':
                    return '\t';
                case 'n':
                    return '\n';
                case 'f':
                    return '\f';
                case 'r':
                    return '\r';
                case '"':
                case '\'':
                case '\\':
                    return letter;
                default:
                    return NONE;
            }
        }
    }

    /** Reads whole and broken numbers (JLS 3.10.1, 3.10.2). */
    private static final class Numbers {
        private static final int MOST_OF_A_NUMBER = 1000;
        /** An exponent far beyond what a thousand digits can make good again, and far below where an int wraps. */
        private static final int ENDLESS = 1000000;
        /** 10 to this, or to more, is infinite, however small the digits are. */
        private static final int HIGHEST_POWER = 309;
        /** A thousand digits with 10 to this, or to less, are nearer to 0 than to anything else. */
        private static final int LOWEST_POWER = -1400;
        private static final long LOWEST_LONG = 1L << 63;

        private final Source source;
        private final Found found;
        private final Big digits;
        private final Rounding rounding;
        private int base;
        private int first;
        private int significandEnd;
        private int exponentEnd;

        Numbers(Source newSource, Found newFound) {
            source = newSource;
            found = newFound;
            digits = new Big();
            rounding = new Rounding(digits);
        }

        /** Whether a broken number begins there (it is longer than any whole one there), and where its parts end. */
        boolean measureBroken(int from) {
            boolean isHex = hasMark(from, 'x', 'X');
            base = isHex ? 16 : 10;
            first = isHex ? from + 2 : from;
            int dot = behindDigits(first, base);
            boolean hasDot = source.look(dot) == '.';
            significandEnd = hasDot ? behindDigits(dot + 1, base) : dot;
            exponentEnd = behindExponent(significandEnd, isHex ? 'p' : 'e', isHex ? 'P' : 'E');
            boolean hasExponent = exponentEnd > significandEnd;
            if (isHex) {
                boolean hasDigits = significandEnd - first > (hasDot ? 1 : 0);
                return hasDigits && hasExponent;
            }
            return hasDot || hasExponent || isFloatLetter(exponentEnd) || isDoubleLetter(exponentEnd);
        }

        /** Only right behind measureBroken, which finds the parts. */
        boolean takeBroken(int from) {
            boolean isFloat = isFloatLetter(exponentEnd);
            int behind = isFloat || isDoubleLetter(exponentEnd) ? exponentEnd + 1 : exponentEnd;
            if (behind - from > MOST_OF_A_NUMBER) {
                return false;
            }
            int places = sumUp(first, significandEnd);
            int power = base == 16 ? readExponent() - 4 * places : bounded(readExponent() - places);
            rounding.scaleByFive(base == 16 ? 0 : power);
            boolean isGood = rounding.round(power, isFloat);
            found.set(isFloat ? FLOAT : DOUBLE, rounding.bits(), from, behind);
            return isGood;
        }

        boolean takeWhole(int from) {
            chooseBase(from);
            int digitsEnd = behindDigits(first, base);
            boolean isLong = isEither(digitsEnd, 'l', 'L');
            int behind = isLong ? digitsEnd + 1 : digitsEnd;
            if (behind - from > MOST_OF_A_NUMBER) {
                return false;
            }
            sumUp(first, digitsEnd);
            long sum = digits.low();
            found.set(isLong ? LONG : WHOLE, isLong ? sum : (int) sum, from, behind);
            return digits.bitLength() <= (isLong ? 64 : 32) && (base != 10 || isAtMostMinimum(sum, isLong));
        }

        /** 0 alone is read as one of base 8; the same 0 is what stands before an x or b without digits. */
        private void chooseBase(int from) {
            boolean isHex = hasMark(from, 'x', 'X') && digitOf(source.look(from + 2)) < 16;
            boolean isBinary = hasMark(from, 'b', 'B') && digitOf(source.look(from + 2)) < 2;
            first = isHex || isBinary ? from + 2 : from;
            base = isHex ? 16 : isBinary ? 2 : source.look(from) == '0' ? 8 : 10;
        }

        /** Whether the negated number fits; a sum of 64 bits is seen as a negative one here. */
        private static boolean isAtMostMinimum(long sum, boolean isLong) {
            return isLong ? sum >= 0 || sum == LOWEST_LONG : sum <= 2147483648L;
        }

        private boolean hasMark(int from, char small, char large) {
            return source.look(from) == '0' && isEither(from + 1, small, large);
        }

        private boolean isFloatLetter(int i) {
            return isEither(i, 'f', 'F');
        }

        private boolean isDoubleLetter(int i) {
            return isEither(i, 'd', 'D');
        }

        private boolean isEither(int i, char small, char large) {
            return source.look(i) == small || source.look(i) == large;
        }

        /** The place behind the last digit of those there, which may have _ between them. */
        private int behindDigits(int from, int ofBase) {
            int behind = from;
            for (int i = from; i < source.count(); i++) {
                if (digitOf(source.look(i)) < ofBase) {
                    behind = i + 1;
                } else if (source.look(i) != '_' || i == from) {
                    return behind;
                }
            }
            return behind;
        }

        /** The same place again if no whole exponent stands there. */
        private int behindExponent(int from, char small, char large) {
            if (!isEither(from, small, large)) {
                return from;
            }
            int start = isEither(from + 1, '+', '-') ? from + 2 : from + 1;
            int behind = behindDigits(start, 10);
            return behind > start ? behind : from;
        }

        /** Brings the digits there into one number without a dot: how many stood behind the dot. */
        private int sumUp(int from, int behind) {
            digits.set(0);
            int places = 0;
            boolean isBehindDot = false;
            for (int i = from; i < behind; i++) {
                int character = source.look(i);
                if (character == '.') {
                    isBehindDot = true;
                } else if (character != '_') {
                    digits.timesPlus(base, digitOf(character));
                    places += isBehindDot ? 1 : 0;
                }
            }
            return places;
        }

        /** A power of 10 that gives the same answer, and numbers that a Big has room for. */
        private static int bounded(int power) {
            return Math.max(LOWEST_POWER, Math.min(power, HIGHEST_POWER));
        }

        private int readExponent() {
            int exponent = 0;
            for (int i = significandEnd + 1; i < exponentEnd; i++) {
                if (isDecimal(source.look(i)) && exponent < ENDLESS) {
                    exponent = exponent * 10 + digitOf(source.look(i));
                }
            }
            return source.look(significandEnd + 1) == '-' ? -exponent : exponent;
        }
    }

    /** Finds the float or double next to a number, as bits. */
    private static final class Rounding {
        private final Big numerator;
        private final Big denominator;
        private long bits;

        /** The numerator is what is to be rounded, and is used up by it. */
        Rounding(Big newNumerator) {
            numerator = newNumerator;
            denominator = new Big();
        }

        long bits() {
            return bits;
        }

        /** Makes the quotient of the two the numerator * 5^power; the 2s of a power of 10 are left to round. */
        void scaleByFive(int power) {
            denominator.set(1);
            if (power >= 0) {
                numerator.timesPowerOfFive(power);
            } else {
                denominator.timesPowerOfFive(-power);
            }
        }

        /** Rounds the quotient * 2^power: whether that is neither infinite nor a 0 that was none. */
        boolean round(int power, boolean isFloat) {
            bits = 0;
            if (numerator.isZero()) {
                return true;
            }
            int precision = isFloat ? 24 : 53;
            int lowest = isFloat ? -126 : -1022;
            int highest = 1 - lowest;
            int exponent = power - align();
            // Below the lowest exponent each step costs a bit; with none left the half of the last one still counts.
            int length = precision - Math.max(lowest - exponent, 0);
            if (exponent > highest || length < 0) {
                return false;
            }
            // The leading bit of the quotient adds the 1 that the exponent's field has beyond the lowest.
            bits = divide(length) + ((long) Math.max(exponent - lowest, 0) << (precision - 1));
            return bits != 0 && (bits >> (precision - 1)) < highest - lowest + 2;
        }

        /** Shifts both until their quotient is at least 1 and below 2: how far the numerator went beyond the other. */
        private int align() {
            int shift = denominator.bitLength() - numerator.bitLength();
            numerator.shiftLeft(Math.max(shift, 0));
            denominator.shiftLeft(Math.max(-shift, 0));
            if (numerator.compareWith(denominator) < 0) {
                numerator.shiftLeft(1);
                shift++;
            }
            return shift;
        }

        /** So many bits of the quotient, rounded to the nearest, of two to the even one. */
        private long divide(int length) {
            long quotient = 0;
            for (int i = 0; i < length; i++) {
                quotient *= 2;
                if (numerator.compareWith(denominator) >= 0) {
                    numerator.subtract(denominator);
                    quotient++;
                }
                numerator.timesPlus(2, 0);
            }
            int beyondHalf = numerator.compareWith(denominator);
            boolean isUp = beyondHalf > 0 || beyondHalf == 0 && quotient % 2 == 1;
            return isUp ? quotient + 1 : quotient;
        }
    }

    /** A natural number with room for 10^1000 * 5^309, 16^1000 and 5^1400, and some bits more. */
    private static final class Big {
        private static final int MOST_LIMBS = 136;
        private static final long LIMB = 0xFFFFFFFFL;
        private static final int FIVE_TO_THE_13 = 1220703125;

        /** The lowest first; those from used on are free, and the last used one is not 0. */
        private final int[] limbs = new int[MOST_LIMBS];
        private int used;

        void set(int number) {
            limbs[0] = number;
            used = number == 0 ? 0 : 1;
        }

        boolean isZero() {
            return used == 0;
        }

        /** The lowest 64 bits. */
        long low() {
            long lower = used > 0 ? limbs[0] & LIMB : 0;
            long upper = used > 1 ? limbs[1] & LIMB : 0;
            return upper << 32 | lower;
        }

        int bitLength() {
            return used == 0 ? 0 : 32 * used - Integer.numberOfLeadingZeros(limbs[used - 1]);
        }

        void timesPlus(int factor, int summand) {
            long carry = summand;
            for (int i = 0; i < used; i++) {
                carry += (limbs[i] & LIMB) * factor;
                limbs[i] = (int) carry;
                carry >>>= 32;
            }
            if (carry != 0 && used < MOST_LIMBS) {
                limbs[used] = (int) carry;
                used++;
            }
        }

        void timesPowerOfFive(int power) {
            int left = power;
            while (left >= 13) {
                timesPlus(FIVE_TO_THE_13, 0);
                left -= 13;
            }
            while (left > 0) {
                timesPlus(5, 0);
                left--;
            }
        }

        void shiftLeft(int count) {
            int far = count / 32;
            int near = count % 32;
            int top = Math.min(used + far + 1, MOST_LIMBS);
            for (int i = top - 1; i >= 0; i--) {
                long both = limbOrZero(i - far) << 32 | limbOrZero(i - far - 1);
                limbs[i] = (int) (both >>> (32 - near));
            }
            used = top;
            dropZeros();
        }

        private long limbOrZero(int i) {
            return i >= 0 && i < used ? limbs[i] & LIMB : 0;
        }

        private void dropZeros() {
            while (used > 0 && limbs[used - 1] == 0) {
                used--;
            }
        }

        int compareWith(Big other) {
            if (used != other.used) {
                return used < other.used ? -1 : 1;
            }
            for (int i = used - 1; i >= 0; i--) {
                if (limbs[i] != other.limbs[i]) {
                    return (limbs[i] & LIMB) < (other.limbs[i] & LIMB) ? -1 : 1;
                }
            }
            return 0;
        }

        /** Only of one that is not larger. */
        void subtract(Big other) {
            long borrow = 0;
            for (int i = 0; i < used; i++) {
                long difference = (limbs[i] & LIMB) - (i < other.used ? other.limbs[i] & LIMB : 0) + borrow;
                limbs[i] = (int) difference;
                borrow = difference >> 32;
            }
            dropZeros();
        }
    }
}
