/**
 * Two mills for a text, one behind the other: the first replaces words by texts and reads what it
 * put there again; the second goes over tokens, line by line, leaves out what conditions say, and
 * replaces names so that none comes again out of itself.
 */
public final class TwoMills {
    private static final int ROOM = 1;
    private static final int SPENT = 2;
    private static final int QUOTE = 3;
    private static final int OPEN = 4;
    private static final int NUMBER = 5;
    private static final int LINE = 6;
    private static final int JOIN = 7;
    private static final int CALL = 8;
    private static final int VALUE = 9;
    private static final int LEVEL = 10;

    private static final char END = 10;
    private static final int TYPED_ROOM = 400;
    private static final int OUTPUT_ROOM = 400;

    private final Letters text;
    private final FirstMill firstMill;
    private final SecondMill secondMill;
    private int reason;
    private int failedLine;

    public TwoMills() {
        text = new Letters(TYPED_ROOM);
        firstMill = new FirstMill();
        secondMill = new SecondMill();
    }

    public int type(long characters, int n) throws IllegalArgumentException, IllegalStateException {
        if (n < 1 || n > 8 || !areCharacters(characters, n)) {
            throw new IllegalArgumentException();
        }
        if (!text.hasRoomFor(n)) {
            throw new IllegalStateException();
        }
        for (int k = 0; k < n; k++) {
            text.add((char) byteOf(characters, k));
        }
        return text.length;
    }

    public int clear() {
        int had = text.length;
        text.empty();
        return had;
    }

    public int first() throws UnsupportedOperationException {
        reason = firstMill.mill(text);
        failedLine = 0;
        if (reason != 0) {
            throw new UnsupportedOperationException();
        }
        return firstMill.output.length;
    }

    public int second() throws UnsupportedOperationException {
        reason = secondMill.mill(firstMill.output);
        failedLine = reason == 0 ? 0 : secondMill.lineNumber;
        if (reason != 0) {
            throw new UnsupportedOperationException();
        }
        return secondMill.result.length;
    }

    public int state(int what) {
        switch (what) {
            case 0: return reason;
            case 1: return failedLine;
            case 2: return firstMill.pieces;
            case 3: return secondMill.expander.replacements;
            case 4: return firstMill.definitions.count;
            case 5: return secondMill.names.count();
            case 6: return firstMill.output.length;
            case 7: return secondMill.result.length;
            default: return -1;
        }
    }

    public int character(int of, int k) {
        if (of == 0) {
            return firstMill.output.at(k);
        }
        return of == 1 ? secondMill.result.at(k) : -1;
    }

    private static boolean areCharacters(long characters, int n) {
        for (int k = 0; k < n; k++) {
            int c = byteOf(characters, k);
            if (c != END && (c < 32 || c > 126)) {
                return false;
            }
        }
        return true;
    }

    private static int byteOf(long characters, int k) {
        return (int) (characters >> 8 * k & 255);
    }

    private static boolean isDigit(int c) {
        return c >= '0' && c <= '9';
    }

    private static boolean isWordStart(int c) {
        return c >= 'a' && c <= 'z' || c >= 'A' && c <= 'Z' || c == '_';
    }

    private static boolean isWordPart(int c) {
        return c >= 'a' && c <= 'z' || c >= 'A' && c <= 'Z' || c == '_' || c >= '0' && c <= '9';
    }

    /** How many letters, digits and "_" stand in the row from a place on, up to the row's end. */
    private static int wordLength(char[] chars, int from, int end) {
        int at = from;
        while (at < end && isWordPart(chars[at])) {
            at++;
        }
        return at - from;
    }

    private static boolean spells(char[] chars, int from, int length, String word) {
        if (length != word.length()) {
            return false;
        }
        for (int k = 0; k < length; k++) {
            if (chars[from + k] != word.charAt(k)) {
                return false;
            }
        }
        return true;
    }

    private static boolean alike(char[] one, int oneFrom, char[] other, int otherFrom, int length) {
        for (int k = 0; k < length; k++) {
            if (one[oneFrom + k] != other[otherFrom + k]) {
                return false;
            }
        }
        return true;
    }

    /** A row of characters that grows at its end, up to its room. */
    private static final class Letters {
        final char[] chars;
        int length;
        /** Something was added that did not fit. */
        boolean over;

        Letters(int room) {
            chars = new char[room];
        }

        void empty() {
            length = 0;
            over = false;
        }

        boolean hasRoomFor(int more) {
            return more <= chars.length - length;
        }

        void add(char c) {
            if (length < chars.length) {
                chars[length] = c;
                length++;
            } else {
                over = true;
            }
        }

        /** As much as fits comes, since a mill's output shows what was put until it failed. */
        void addAll(char[] source, int from, int count) {
            int fitting = Math.min(count, chars.length - length);
            System.arraycopy(source, from, chars, length, fitting);
            length += fitting;
            over = over || fitting < count;
        }

        void addNumber(int number) {
            if (number < 0) {
                add('-');
            }
            int size = Math.abs(number);
            boolean begun = false;
            for (int unit = 1000000000; unit > 0; unit /= 10) {
                int digit = size / unit % 10;
                begun = begun || digit != 0 || unit == 1;
                if (begun) {
                    add((char) ('0' + digit));
                }
            }
        }

        int at(int k) {
            return k >= 0 && k < length ? chars[k] : -1;
        }

        boolean is(char[] other, int from, int count) {
            for (int k = 0; k < count && count == length; k++) {
                if (chars[k] != other[from + k]) {
                    return false;
                }
            }
            return count == length;
        }
    }

    /** What the first mill still has to read; it stands at the row's end, so texts can come ahead. */
    private static final class Input {
        static final int MOST = 500;

        final char[] chars = new char[MOST];
        int front = MOST;

        void take(Letters text) {
            front = MOST - text.length;
            System.arraycopy(text.chars, 0, chars, front, text.length);
        }

        boolean isEmpty() {
            return front >= MOST;
        }

        int at(int k) {
            return front + k < MOST ? chars[front + k] : -1;
        }

        /** The length of the quoted piece at the front, with both quotes; 0 if it isn't closed. */
        int quotedLength() {
            int open = 0;
            for (int at = front; at < MOST; at++) {
                if (chars[at] == '`') {
                    open++;
                } else if (chars[at] == '\'') {
                    open--;
                }
                if (open == 0) {
                    return at + 1 - front;
                }
            }
            return 0;
        }

        void drop(int count) {
            front = Math.min(front + count, MOST);
        }

        void dropLine() {
            int at = front;
            while (at < MOST && chars[at] != END) {
                at++;
            }
            front = Math.min(at + 1, MOST);
        }

        boolean comeAhead(Letters coming) {
            if (coming.over || coming.length > front) {
                return false;
            }
            front -= coming.length;
            System.arraycopy(coming.chars, 0, chars, front, coming.length);
            return true;
        }
    }

    /**
     * The first mill's definitions. A macro that is being collected keeps its definition even when
     * that one has gone, so there are more slots than definitions, and a slot that is awaited is not
     * used again.
     */
    private static final class Definitions {
        static final int MOST = 10;
        static final int WORD_ROOM = 8;
        static final int TEXT_ROOM = 40;
        static final int SLOTS = MOST + Arguments.MOST_MACROS;

        final Letters[] words = new Letters[SLOTS];
        final Letters[] texts = new Letters[SLOTS];
        final int[] awaited = new int[SLOTS];
        /** All slots; the first ones are the definitions there are, the latest one last. */
        final int[] order = new int[SLOTS];
        int count;

        Definitions() {
            for (int k = 0; k < SLOTS; k++) {
                words[k] = new Letters(WORD_ROOM);
                texts[k] = new Letters(TEXT_ROOM);
                order[k] = k;
            }
        }

        void empty() {
            count = 0;
            for (int k = 0; k < SLOTS; k++) {
                awaited[k] = 0;
            }
        }

        /** The slot of a word's latest definition; -1 if there is none. */
        int latest(char[] chars, int from, int length) {
            for (int k = count - 1; k >= 0; k--) {
                if (words[order[k]].is(chars, from, length)) {
                    return order[k];
                }
            }
            return -1;
        }

        /** The slot of a new definition without a text; -1 if there is no room. */
        int make(char[] chars, int from, int length) {
            for (int k = count; k < SLOTS && count < MOST; k++) {
                int slot = order[k];
                if (awaited[slot] == 0) {
                    order[k] = order[count];
                    order[count] = slot;
                    count++;
                    words[slot].empty();
                    words[slot].addAll(chars, from, length);
                    return slot;
                }
            }
            return -1;
        }

        /** The definition in a slot goes; those behind it keep their order. */
        void remove(int slot) {
            int kept = 0;
            for (int k = 0; k < count; k++) {
                if (order[k] != slot) {
                    order[kept] = order[k];
                    kept++;
                }
            }
            if (kept < count) {
                order[kept] = slot;
                count = kept;
            }
        }
    }

    /** The macros that are being collected, one in another, and their arguments. */
    private static final class Arguments {
        static final int MOST_MACROS = 6;
        static final int MOST_ARGUMENTS = 5;

        /** Only the latest argument of the latest macro grows, so all stand in one row. */
        final Letters letters = new Letters(200);
        final int[] starts = new int[MOST_MACROS * MOST_ARGUMENTS];
        final int[] macros = new int[MOST_MACROS];
        final int[] opens = new int[MOST_MACROS];
        final int[] counts = new int[MOST_MACROS];
        /** The latest macro's place; -1 if none is collected. */
        int latest = -1;

        void empty() {
            latest = -1;
            letters.empty();
        }

        boolean begin(int macro) {
            if (latest + 1 >= MOST_MACROS) {
                return false;
            }
            latest++;
            macros[latest] = macro;
            opens[latest] = 0;
            counts[latest] = 0;
            return beginArgument();
        }

        boolean beginArgument() {
            if (counts[latest] >= MOST_ARGUMENTS) {
                return false;
            }
            starts[latest * MOST_ARGUMENTS + counts[latest]] = letters.length;
            counts[latest]++;
            return true;
        }

        /** Where the latest macro's k-th argument (from 0) begins; a missing one is at the end. */
        int start(int k) {
            return k < counts[latest] ? starts[latest * MOST_ARGUMENTS + k] : letters.length;
        }

        int length(int k) {
            return start(k + 1) - start(k);
        }

        boolean isAtArgumentStart() {
            return length(counts[latest] - 1) == 0;
        }

        void end() {
            letters.length = start(0);
            latest--;
        }
    }

    /** The first mill: a macro is a definition's slot or, from DEFINE on, one that is built in. */
    private static final class FirstMill {
        static final int MOST_PIECES = 600;
        static final int NO_MACRO = -1;
        static final int DEFINE = 100;
        static final int PUSHDEF = 101;
        static final int POPDEF = 102;
        static final int IFDEF = 103;
        static final int IFELSE = 104;
        static final int INCR = 105;
        static final int LEN = 106;
        static final int SHIFT = 107;
        static final int DNL = 108;

        final Letters output = new Letters(OUTPUT_ROOM);
        final Definitions definitions = new Definitions();
        final Input input = new Input();
        final Arguments arguments = new Arguments();
        /** The text that a call brings ahead of the input. */
        final Letters coming = new Letters(Input.MOST);
        int pieces;
        int failure;

        /** The reason why it failed, 0 if it didn't. */
        int mill(Letters text) {
            output.empty();
            definitions.empty();
            arguments.empty();
            input.take(text);
            pieces = 0;
            failure = 0;
            try {
                for (int k = 0; k <= MOST_PIECES && !input.isEmpty(); k++) {
                    countPiece();
                    if (input.at(0) == '`') {
                        takeQuoted();
                    } else if (isWordStart(input.at(0))) {
                        takeWord();
                    } else {
                        takeCharacter(input.at(0));
                    }
                }
                if (arguments.latest >= 0) {
                    fail(OPEN);
                }
            } catch (UnsupportedOperationException e) {
                return failure;
            }
            return 0;
        }

        private void fail(int why) {
            failure = why;
            throw new UnsupportedOperationException();
        }

        private void countPiece() {
            if (pieces >= MOST_PIECES) {
                fail(SPENT);
            }
            pieces++;
        }

        private void takeQuoted() {
            int length = input.quotedLength();
            if (length == 0) {
                fail(QUOTE);
            }
            put(input.front + 1, length - 2);
            input.drop(length);
        }

        private void takeWord() {
            int length = wordLength(input.chars, input.front, Input.MOST);
            boolean bracket = input.at(length) == '(';
            int macro = macroAt(length, bracket);
            if (macro == NO_MACRO) {
                putFront(length);
            } else if (macro == DNL) {
                input.dropLine();
            } else if (bracket) {
                input.drop(length + 1);
                collect(macro);
            } else {
                input.drop(length);
                coming.empty();
                bringText(macro, 0);
                comeAhead();
            }
        }

        private int macroAt(int length, boolean bracket) {
            int slot = definitions.latest(input.chars, input.front, length);
            if (slot >= 0) {
                return slot;
            }
            if (isFront(length, "dnl")) {
                return DNL;
            }
            return bracket ? builtInWithBracket(length) : NO_MACRO;
        }

        private int builtInWithBracket(int length) {
            if (isFront(length, "define")) {
                return DEFINE;
            } else if (isFront(length, "pushdef")) {
                return PUSHDEF;
            } else if (isFront(length, "popdef")) {
                return POPDEF;
            } else if (isFront(length, "ifdef")) {
                return IFDEF;
            } else if (isFront(length, "ifelse")) {
                return IFELSE;
            } else if (isFront(length, "incr")) {
                return INCR;
            } else if (isFront(length, "len")) {
                return LEN;
            }
            return isFront(length, "shift") ? SHIFT : NO_MACRO;
        }

        private boolean isFront(int length, String word) {
            return spells(input.chars, input.front, length, word);
        }

        private void collect(int macro) {
            if (!arguments.begin(macro)) {
                fail(ROOM);
            }
            if (macro < DEFINE) {
                definitions.awaited[macro]++;
            }
        }

        private void takeCharacter(int c) {
            int latest = arguments.latest;
            boolean open = latest >= 0 && arguments.opens[latest] > 0;
            if (latest < 0) {
                putFront(1);
            } else if (c == ')' && !open) {
                input.drop(1);
                callCollected();
            } else if (c == ',' && !open) {
                input.drop(1);
                if (!arguments.beginArgument()) {
                    fail(ROOM);
                }
            } else if ((c == END || c == ' ') && arguments.isAtArgumentStart()) {
                input.drop(1);
            } else {
                arguments.opens[latest] += c == '(' ? 1 : c == ')' ? -1 : 0;
                putFront(1);
            }
        }

        private void putFront(int count) {
            put(input.front, count);
            input.drop(count);
        }

        private void put(int from, int count) {
            Letters place = arguments.latest >= 0 ? arguments.letters : output;
            place.addAll(input.chars, from, count);
            if (place.over) {
                fail(ROOM);
            }
        }

        private void callCollected() {
            int macro = arguments.macros[arguments.latest];
            char[] chars = arguments.letters.chars;
            int from = arguments.start(0);
            int length = arguments.length(0);
            coming.empty();
            switch (macro) {
                case DEFINE:
                    define(definitions.latest(chars, from, length));
                    break;
                case PUSHDEF:
                    define(-1);
                    break;
                case POPDEF:
                    definitions.remove(definitions.latest(chars, from, length));
                    break;
                case IFDEF:
                    bringArgument(definitions.latest(chars, from, length) >= 0 ? 1 : 2);
                    break;
                case IFELSE:
                    bringArgument(areFirstTwoAlike() ? 2 : 3);
                    break;
                case INCR:
                    increment(from, length);
                    break;
                case LEN:
                    coming.addNumber(length);
                    break;
                case SHIFT:
                    shift();
                    break;
                default:
                    bringText(macro, arguments.counts[arguments.latest]);
                    definitions.awaited[macro]--;
                    break;
            }
            arguments.end();
            comeAhead();
        }

        private void comeAhead() {
            if (!input.comeAhead(coming)) {
                fail(ROOM);
            }
        }

        private void bringText(int slot, int count) {
            Letters text = definitions.texts[slot];
            for (int k = 0; k < text.length; k++) {
                int next = text.at(k + 1);
                if (text.chars[k] != '$' || next != '#' && !isDigit(next)) {
                    coming.add(text.chars[k]);
                    continue;
                }
                if (next == '#') {
                    coming.addNumber(count);
                } else if (next == '0') {
                    coming.addAll(definitions.words[slot].chars, 0, definitions.words[slot].length);
                } else if (next - '0' <= count) {
                    bringArgument(next - '1');
                }
                k++;
            }
        }

        private void bringArgument(int k) {
            coming.addAll(arguments.letters.chars, arguments.start(k), arguments.length(k));
        }

        /** Gives a definition the second argument as its text; without a slot, a new one. */
        private void define(int known) {
            char[] chars = arguments.letters.chars;
            int from = arguments.start(0);
            int length = arguments.length(0);
            if (length == 0 || length > Definitions.WORD_ROOM || !isWordStart(chars[from])
                    || wordLength(chars, from, from + length) != length) {
                return;
            }
            if (arguments.length(1) > Definitions.TEXT_ROOM) {
                fail(ROOM);
            }
            int slot = known >= 0 ? known : definitions.make(chars, from, length);
            if (slot < 0) {
                fail(ROOM);
            }
            Letters text = definitions.texts[slot];
            text.empty();
            text.addAll(chars, arguments.start(1), arguments.length(1));
        }

        private boolean areFirstTwoAlike() {
            char[] chars = arguments.letters.chars;
            int length = arguments.length(0);
            return length == arguments.length(1)
                    && alike(chars, arguments.start(0), chars, arguments.start(1), length);
        }

        private void increment(int from, int length) {
            char[] chars = arguments.letters.chars;
            boolean negative = length > 0 && chars[from] == '-';
            int digits = negative ? length - 1 : length;
            if (digits < 1 || digits > 9) {
                fail(NUMBER);
            }
            int size = 0;
            for (int k = from + length - digits; k < from + length; k++) {
                if (!isDigit(chars[k])) {
                    fail(NUMBER);
                }
                size = size * 10 + chars[k] - '0';
            }
            coming.addNumber((negative ? -size : size) + 1);
        }

        private void shift() {
            for (int k = 1; k < arguments.counts[arguments.latest]; k++) {
                if (k > 1) {
                    coming.add(',');
                }
                coming.add('`');
                bringArgument(k);
                coming.add('\'');
            }
        }
    }

    /**
     * The characters that the second mill's tokens are cut from. A token is a number that tells its
     * kind, where its characters stand, and which names (a bit for each) it hides; so rows of tokens
     * need no objects. The number 0 is a token without characters, which hides nothing.
     */
    private static final class Tokens {
        static final int WORD = 1;
        static final int NUMERAL = 2;
        static final int STRING = 3;
        static final int SIGN = 4;
        static final long NOTHING = 0;
        /** Marks a ## of a body, which joins; one that came in with an argument does not. */
        static final long JOINER = 1L << 48;
        static final int HIDES_AT = 40;
        static final int MADE_FROM = OUTPUT_ROOM + 2;
        static final int MOST_MADE = 900;

        /** The first mill's output, a 0 and a 1, and then what # and ## made. */
        final char[] chars = new char[MADE_FROM + MOST_MADE];
        int made;
        int failure;

        void begin(Letters output) {
            System.arraycopy(output.chars, 0, chars, 0, output.length);
            chars[OUTPUT_ROOM] = '0';
            chars[OUTPUT_ROOM + 1] = '1';
            made = 0;
            failure = 0;
        }

        void fail(int why) {
            failure = why;
            throw new UnsupportedOperationException();
        }

        static long token(int kind, int start, int length) {
            return (long) kind << 32 | (long) length << 16 | start;
        }

        static int start(long token) {
            return (int) (token & 0xFFFF);
        }

        static int length(long token) {
            return (int) (token >> 16 & 0xFFFF);
        }

        static int kind(long token) {
            return (int) (token >> 32 & 0xFF);
        }

        static int hides(long token) {
            return (int) (token >> HIDES_AT & 0xFF);
        }

        static long hiding(long token, int names) {
            return token | (long) names << HIDES_AT;
        }

        static long digit(boolean one) {
            return token(NUMERAL, one ? OUTPUT_ROOM + 1 : OUTPUT_ROOM, 1);
        }

        /** The token that begins at a place that is no blank. */
        long scan(int at, int end) {
            char c = chars[at];
            int behind = at;
            while (behind < end && isWordPart(chars[behind])) {
                behind++;
            }
            if (behind > at) {
                return token(isDigit(c) ? NUMERAL : WORD, at, behind - at);
            }
            for (int k = at + 1; c == '"' && k < end; k++) {
                if (chars[k] == '"') {
                    return token(STRING, at, k + 1 - at);
                }
            }
            return token(SIGN, at, at + 1 < end && isPair(c, chars[at + 1]) ? 2 : 1);
        }

        private static boolean isPair(char c, char next) {
            if (next == '=') {
                return c == '=' || c == '!' || c == '<' || c == '>';
            }
            return c == next && (c == '#' || c == '&' || c == '|' || c == '<' || c == '>');
        }

        boolean same(long one, long other) {
            return length(one) == length(other)
                    && alike(chars, start(one), chars, start(other), length(one));
        }

        boolean is(long token, String word) {
            return spells(chars, start(token), length(token), word);
        }

        boolean isSign(long token, char c) {
            return kind(token) == SIGN && length(token) == 1 && chars[start(token)] == c;
        }

        boolean isJoiner(long token) {
            return kind(token) == SIGN && is(token, "##");
        }

        private void append(long token) {
            System.arraycopy(chars, start(token), chars, MADE_FROM + made, length(token));
            made += length(token);
        }

        private void append(char c) {
            chars[MADE_FROM + made] = c;
            made++;
        }

        long stringOf(long[] row, int from, int end) {
            int length = 2 + Math.max(0, end - from - 1);
            for (int k = from; k < end; k++) {
                length += length(row[k]);
            }
            if (length > MOST_MADE - made) {
                fail(ROOM);
            }
            int start = MADE_FROM + made;
            append('"');
            for (int k = from; k < end; k++) {
                if (k > from) {
                    append(' ');
                }
                append(row[k]);
            }
            append('"');
            return token(STRING, start, length);
        }

        /** Each ## of the body joins the tokens round it; answers how many tokens there are then. */
        int joinAll(long[] row, int count) {
            int kept = 0;
            for (int k = 0; k < count; k++) {
                long token = row[k];
                if ((token & JOINER) != 0) {
                    long ahead = kept > 0 ? row[kept - 1] : NOTHING;
                    long behind = k + 1 < count ? row[k + 1] : NOTHING;
                    int length = length(ahead) + length(behind);
                    if (length > MOST_MADE - made) {
                        fail(ROOM);
                    }
                    int start = MADE_FROM + made;
                    append(ahead);
                    append(behind);
                    token = length == 0 ? NOTHING : scan(start, start + length);
                    if (length(token) != length || kind(token) == STRING) {
                        fail(JOIN);
                    }
                    token = hiding(token, hides(ahead) & hides(behind));
                    kept = Math.max(0, kept - 1);
                    k++;
                }
                row[kept] = token;
                kept++;
            }
            return kept;
        }
    }

    /** The names that have a body. */
    private static final class Names {
        static final int MOST = 8;
        static final int MOST_PARAMETERS = 3;
        static final int MOST_TOKENS = 12;
        static final int WITHOUT_BRACKETS = -1;

        /** A name's word; NOTHING where there is none. */
        final long[] words = new long[MOST];
        final int[] parameterCounts = new int[MOST];
        final long[] parameters = new long[MOST * MOST_PARAMETERS];
        final int[] bodyLengths = new int[MOST];
        final long[] bodies = new long[MOST * MOST_TOKENS];

        void empty() {
            for (int k = 0; k < MOST; k++) {
                words[k] = Tokens.NOTHING;
            }
        }

        int count() {
            int count = 0;
            for (int k = 0; k < MOST; k++) {
                count += words[k] != Tokens.NOTHING ? 1 : 0;
            }
            return count;
        }

        /** The name that is this word and has a body; -1 if there is none. */
        int find(Tokens tokens, long word) {
            for (int k = 0; k < MOST; k++) {
                if (words[k] != Tokens.NOTHING && tokens.same(words[k], word)) {
                    return k;
                }
            }
            return -1;
        }

        /** A place for one more name; -1 if there is none. */
        int freePlace() {
            for (int k = 0; k < MOST; k++) {
                if (words[k] == Tokens.NOTHING) {
                    return k;
                }
            }
            return -1;
        }

        /** Which parameter of a name a token is; -1 if it is none. */
        int parameterOf(Tokens tokens, int name, long token) {
            for (int k = 0; k < parameterCounts[name]; k++) {
                if (tokens.same(parameters[name * MOST_PARAMETERS + k], token)) {
                    return k;
                }
            }
            return -1;
        }

        /** The k-th token of a name's body; NOTHING ahead of the first and behind the last. */
        long bodyAt(int name, int k) {
            return k >= 0 && k < bodyLengths[name] ? bodies[name * MOST_TOKENS + k] : Tokens.NOTHING;
        }
    }

    /** A row of tokens that is being expanded. */
    private static final class Row {
        static final int MOST = 100;

        /** The tokens not done with stand at the end, so a substitution can come ahead of them. */
        final long[] waiting = new long[MOST];
        int front = MOST;
        final long[] done = new long[MOST];
        int doneCount;
        /** The substitution: each token of a body may bring a whole row. */
        final long[] coming = new long[MOST * Names.MOST_TOKENS];
        int comingCount;
        /** The brackets and commas round the arguments. */
        final int[] cuts = new int[Names.MOST_PARAMETERS + 1];
        int argumentCount;

        boolean begin(long[] source, int from, int count) {
            if (count > MOST) {
                return false;
            }
            front = MOST - count;
            System.arraycopy(source, from, waiting, front, count);
            doneCount = 0;
            return true;
        }

        long waitingAt(int k) {
            return front + k < MOST ? waiting[front + k] : Tokens.NOTHING;
        }

        boolean finishOne() {
            if (doneCount >= MOST) {
                return false;
            }
            done[doneCount] = waiting[front];
            doneCount++;
            front++;
            return true;
        }

        void bring(long token) {
            if (comingCount < coming.length) {
                coming[comingCount] = token;
                comingCount++;
            }
        }

        void bringAll(long[] source, int from, int end) {
            for (int k = from; k < end; k++) {
                bring(source[k]);
            }
        }

        /** Finds the arguments behind the word at the front; the place of the ")", -1 without one. */
        int cutArguments(Tokens tokens) {
            int open = 0;
            argumentCount = 0;
            cuts[0] = front + 1;
            for (int k = front + 1; k < MOST; k++) {
                boolean closing = tokens.isSign(waiting[k], ')');
                open += tokens.isSign(waiting[k], '(') ? 1 : closing ? -1 : 0;
                if (closing && open == 0 || open == 1 && tokens.isSign(waiting[k], ',')) {
                    argumentCount++;
                    if (argumentCount < cuts.length) {
                        cuts[argumentCount] = k;
                    }
                }
                if (closing && open == 0) {
                    return k;
                }
            }
            return -1;
        }

        /** The tokens up to a place are replaced by those that come. */
        boolean comeIn(int last) {
            if (comingCount > last + 1) {
                return false;
            }
            front = last + 1 - comingCount;
            System.arraycopy(coming, 0, waiting, front, comingCount);
            return true;
        }
    }

    /** Expands rows of tokens, and in them the rows of arguments. */
    private static final class Expander {
        static final int MOST_ROWS = 8;
        static final int MOST_REPLACEMENTS = 400;

        final Tokens tokens;
        final Names names;
        /** A row is made when one so deep is first needed: few texts go deep. */
        final Row[] rows = new Row[MOST_ROWS];
        int replacements;

        Expander(Tokens tokens, Names names) {
            this.tokens = tokens;
            this.names = names;
        }

        /** Expands tokens as the row that is so many rows deep, and answers that row. */
        Row expand(int depth, long[] source, int from, int count) {
            if (depth >= MOST_ROWS) {
                tokens.fail(ROOM);
            }
            if (rows[depth] == null) {
                rows[depth] = new Row();
            }
            Row row = rows[depth];
            if (!row.begin(source, from, count)) {
                tokens.fail(ROOM);
            }
            for (int k = 0; k <= Row.MOST + MOST_REPLACEMENTS && row.front < Row.MOST; k++) {
                takeToken(depth, row);
            }
            return row;
        }

        private void takeToken(int depth, Row row) {
            long token = row.waitingAt(0);
            int name = Tokens.kind(token) == Tokens.WORD ? names.find(tokens, token) : -1;
            boolean hidden = name >= 0 && (Tokens.hides(token) >> name & 1) != 0;
            boolean simple = name >= 0 && names.parameterCounts[name] == Names.WITHOUT_BRACKETS;
            if (name < 0 || hidden || !simple && !tokens.isSign(row.waitingAt(1), '(')) {
                if (!row.finishOne()) {
                    tokens.fail(ROOM);
                }
                return;
            }
            int last = simple ? row.front : row.cutArguments(tokens);
            if (!simple && (last < 0 || !areArgumentsFor(name, row))) {
                tokens.fail(CALL);
            }
            replace(depth, row, name, last);
        }

        private boolean areArgumentsFor(int name, Row row) {
            if (names.parameterCounts[name] == 0) {
                return row.argumentCount == 1 && row.cuts[1] == row.cuts[0] + 1;
            }
            return row.argumentCount == names.parameterCounts[name];
        }

        private void replace(int depth, Row row, int name, int last) {
            if (replacements >= MOST_REPLACEMENTS) {
                tokens.fail(SPENT);
            }
            replacements++;
            // Without brackets both are the word, and all it hid stays hidden.
            int hidden = Tokens.hides(row.waiting[row.front]) & Tokens.hides(row.waiting[last]);
            substitute(depth, row, name);
            row.comingCount = tokens.joinAll(row.coming, row.comingCount);
            hide(row, hidden | 1 << name);
            if (!row.comeIn(last)) {
                tokens.fail(ROOM);
            }
        }

        private void substitute(int depth, Row row, int name) {
            row.comingCount = 0;
            for (int k = 0; k < names.bodyLengths[name]; k++) {
                long token = names.bodyAt(name, k);
                int parameter = names.parameterOf(tokens, name, token);
                int next = names.parameterOf(tokens, name, names.bodyAt(name, k + 1));
                if (next >= 0 && tokens.isSign(token, '#')) {
                    row.bring(tokens.stringOf(row.waiting, row.cuts[next] + 1, row.cuts[next + 1]));
                    k++;
                } else if (parameter >= 0) {
                    boolean plain = tokens.isJoiner(names.bodyAt(name, k - 1))
                            || tokens.isJoiner(names.bodyAt(name, k + 1));
                    bringArgument(depth, row, parameter, plain);
                } else {
                    row.bring(tokens.isJoiner(token) ? token | Tokens.JOINER : token);
                }
            }
        }

        private void bringArgument(int depth, Row row, int parameter, boolean plain) {
            int from = row.cuts[parameter] + 1;
            int end = row.cuts[parameter + 1];
            if (!plain) {
                Row inner = expand(depth + 1, row.waiting, from, end - from);
                row.bringAll(inner.done, 0, inner.doneCount);
            } else if (from == end) {
                row.bring(Tokens.NOTHING);
            } else {
                row.bringAll(row.waiting, from, end);
            }
        }

        /** Tokens without characters go, the others hide these names. */
        private void hide(Row row, int hidden) {
            int kept = 0;
            for (int k = 0; k < row.comingCount; k++) {
                if (Tokens.length(row.coming[k]) > 0) {
                    row.coming[kept] = Tokens.hiding(row.coming[k], hidden);
                    kept++;
                }
            }
            row.comingCount = kept;
        }
    }

    /**
     * The value of a row of tokens. What is divided by 0 gives a spoilt value, which spoils what it
     * is used for, so that && and || can leave it out when their first value settles them.
     */
    private static final class Expression {
        static final int OR = '|' | '|' << 8;
        static final int AND = '&' | '&' << 8;
        static final int EQUAL = '=' | '=' << 8;
        static final int UNEQUAL = '!' | '=' << 8;
        static final int AT_MOST = '<' | '=' << 8;
        static final int AT_LEAST = '>' | '=' << 8;
        static final int LEFT = '<' | '<' << 8;
        static final int RIGHT = '>' | '>' << 8;
        /** Marks a sign that stands ahead of one value. */
        static final int AHEAD = 1 << 16;
        static final int AHEAD_STRENGTH = 11;
        static final long GREATEST = 9223372036854775807L;

        final Tokens tokens;
        final long[] values = new long[Row.MOST];
        final boolean[] spoilt = new boolean[Row.MOST];
        int valueCount;
        final int[] signs = new int[Row.MOST];
        int signCount;

        Expression(Tokens tokens) {
            this.tokens = tokens;
        }

        long valueOf(long[] row, int count) {
            valueCount = 0;
            signCount = 0;
            boolean valueIsDue = true;
            for (int k = 0; k < count && k < Row.MOST; k++) {
                valueIsDue = valueIsDue ? takeValue(row[k]) : takeSign(row[k]);
            }
            if (valueIsDue) {
                tokens.fail(VALUE);
            }
            applyDownTo(1);
            if (signCount != 0 || valueCount != 1 || spoilt[0]) {
                tokens.fail(VALUE);
            }
            return values[0];
        }

        /** Takes a token where a value is due; answers whether one still is. */
        private boolean takeValue(long token) {
            int kind = Tokens.kind(token);
            if (kind == Tokens.WORD || kind == Tokens.NUMERAL) {
                values[valueCount] = kind == Tokens.WORD ? 0 : numberOf(token);
                spoilt[valueCount] = false;
                valueCount++;
                return false;
            }
            int sign = signOf(token);
            if (sign == '-' || sign == '!' || sign == '~') {
                sign |= AHEAD;
            } else if (sign != '(') {
                tokens.fail(VALUE);
            }
            pushSign(sign);
            return true;
        }

        /** Takes a token behind a value; answers whether another value is due. */
        private boolean takeSign(long token) {
            int sign = signOf(token);
            if (sign == ')') {
                applyDownTo(1);
                if (signCount == 0) {
                    tokens.fail(VALUE);
                }
                signCount--;
                return false;
            }
            int strength = strengthOf(sign);
            if (strength == 0) {
                tokens.fail(VALUE);
            }
            applyDownTo(strength);
            pushSign(sign);
            return true;
        }

        private void pushSign(int sign) {
            signs[signCount] = sign;
            signCount++;
        }

        /** A sign's one or two characters as a number; 0 for other tokens. */
        private int signOf(long token) {
            if (Tokens.kind(token) != Tokens.SIGN) {
                return 0;
            }
            int start = Tokens.start(token);
            return tokens.chars[start] | (Tokens.length(token) == 2 ? tokens.chars[start + 1] << 8 : 0);
        }

        private long numberOf(long token) {
            long number = 0;
            int start = Tokens.start(token);
            for (int k = start; k < start + Tokens.length(token); k++) {
                int digit = tokens.chars[k] - '0';
                if (!isDigit(tokens.chars[k]) || number > (GREATEST - digit) / 10) {
                    tokens.fail(VALUE);
                }
                number = number * 10 + digit;
            }
            return number;
        }

        /** How strong a sign binds; 0 for a "(" and for what stands between no two values. */
        private static int strengthOf(int sign) {
            switch (sign) {
                case '*': case '/': case '%': return 10;
                case '+': case '-': return 9;
                case LEFT: case RIGHT: return 8;
                case '<': case '>': case AT_MOST: case AT_LEAST: return 7;
                case EQUAL: case UNEQUAL: return 6;
                case '&': return 5;
                case '^': return 4;
                case '|': return 3;
                case AND: return 2;
                case OR: return 1;
                default: return (sign & AHEAD) != 0 ? AHEAD_STRENGTH : 0;
            }
        }

        private void applyDownTo(int strength) {
            while (signCount > 0 && strengthOf(signs[signCount - 1]) >= strength) {
                signCount--;
                if ((signs[signCount] & AHEAD) != 0) {
                    applyAhead(signs[signCount] & ~AHEAD);
                } else {
                    applyBetween(signs[signCount]);
                }
            }
        }

        private void applyAhead(int sign) {
            int at = valueCount - 1;
            if (sign == '-') {
                values[at] = -values[at];
            } else if (sign == '~') {
                values[at] = ~values[at];
            } else {
                values[at] = values[at] == 0 ? 1 : 0;
            }
        }

        private void applyBetween(int sign) {
            valueCount--;
            int at = valueCount - 1;
            long one = values[at];
            long other = values[at + 1];
            boolean byNothing = (sign == '/' || sign == '%') && other == 0;
            boolean settled = sign == AND && one == 0 || sign == OR && one != 0;
            spoilt[at] = spoilt[at] || byNothing || spoilt[at + 1] && !settled;
            long value = 0;
            switch (sign) {
                case '*': value = one * other; break;
                case '/': value = byNothing ? 0 : one / other; break;
                case '%': value = byNothing ? 0 : one % other; break;
                case '+': value = one + other; break;
                case '-': value = one - other; break;
                case LEFT: value = one << (other & 63); break;
                case RIGHT: value = one >> (other & 63); break;
                case '<': value = one < other ? 1 : 0; break;
                case '>': value = one > other ? 1 : 0; break;
                case AT_MOST: value = one <= other ? 1 : 0; break;
                case AT_LEAST: value = one >= other ? 1 : 0; break;
                case EQUAL: value = one == other ? 1 : 0; break;
                case UNEQUAL: value = one != other ? 1 : 0; break;
                case '&': value = one & other; break;
                case '^': value = one ^ other; break;
                case '|': value = one | other; break;
                case AND: value = one != 0 && other != 0 ? 1 : 0; break;
                default: value = one != 0 || other != 0 ? 1 : 0; break;
            }
            values[at] = value;
        }
    }

    /** The second mill: lines, orders and levels. */
    private static final class SecondMill {
        static final int MOST_LEVELS = 6;

        final Tokens tokens = new Tokens();
        final Names names = new Names();
        final Expander expander = new Expander(tokens, names);
        final Expression expression = new Expression(tokens);
        final Letters result = new Letters(600);
        final long[] line = new long[OUTPUT_ROOM];
        int lineLength;
        int lineNumber;
        final boolean[] holds = new boolean[MOST_LEVELS];
        final boolean[] turned = new boolean[MOST_LEVELS];
        /** The level was begun in lines left out, so it never holds. */
        final boolean[] leftOut = new boolean[MOST_LEVELS];
        int levels;

        /** The reason why it failed, 0 if it didn't. */
        int mill(Letters output) {
            tokens.begin(output);
            names.empty();
            result.empty();
            expander.replacements = 0;
            levels = 0;
            lineNumber = -1;
            int from = 0;
            try {
                for (int k = 0; k <= output.length; k++) {
                    if (k < output.length ? tokens.chars[k] == END : from < k) {
                        lineNumber++;
                        cutLine(from, k);
                        takeLine();
                        from = k + 1;
                    }
                }
                requireNoLevel();
            } catch (UnsupportedOperationException e) {
                return tokens.failure;
            }
            return 0;
        }

        private void requireNoLevel() {
            if (levels > 0) {
                tokens.fail(LEVEL);
            }
        }

        private void cutLine(int from, int end) {
            lineLength = 0;
            int at = from;
            while (at < end) {
                if (tokens.chars[at] == ' ') {
                    at++;
                } else {
                    line[lineLength] = tokens.scan(at, end);
                    at += Math.max(1, Tokens.length(line[lineLength]));
                    lineLength++;
                }
            }
        }

        private void takeLine() {
            boolean order = isSignAt(0, '#');
            if (levels > 0 && !holds[levels - 1]) {
                if (order && isWordAt(1)) {
                    skipOrder(line[1]);
                }
            } else if (!order) {
                deliver(expander.expand(0, line, 0, lineLength));
            } else if (lineLength > 1) {
                require(isWordAt(1));
                takeOrder(line[1]);
            }
        }

        private boolean isSignAt(int k, char c) {
            return k < lineLength && tokens.isSign(line[k], c);
        }

        private boolean isWordAt(int k) {
            return k < lineLength && Tokens.kind(line[k]) == Tokens.WORD;
        }

        private void require(boolean likeAnOrder) {
            if (!likeAnOrder) {
                tokens.fail(LINE);
            }
        }

        private void deliver(Row row) {
            int length = row.doneCount;
            for (int k = 0; k < row.doneCount; k++) {
                length += Tokens.length(row.done[k]);
            }
            if (!result.hasRoomFor(length)) {
                tokens.fail(ROOM);
            }
            for (int k = 0; k < row.doneCount; k++) {
                result.addAll(tokens.chars, Tokens.start(row.done[k]), Tokens.length(row.done[k]));
                result.add(k + 1 < row.doneCount ? ' ' : END);
            }
        }

        private void skipOrder(long word) {
            if (tokens.is(word, "if") || tokens.is(word, "ifdef") || tokens.is(word, "ifndef")) {
                requireLevelRoom();
                beginLevel(false, true);
            } else if (tokens.is(word, "else")) {
                turnLevel();
            } else if (tokens.is(word, "endif")) {
                endLevel();
            }
        }

        private void takeOrder(long word) {
            if (tokens.is(word, "define")) {
                require(isWordAt(2));
                define(hasBracketAtWord() ? countParameters() : Names.WITHOUT_BRACKETS);
            } else if (tokens.is(word, "undef")) {
                undefine();
            } else if (tokens.is(word, "if")) {
                requireLevelRoom();
                Row row = expander.expand(0, line, 0, answerDefined());
                beginLevel(expression.valueOf(row.done, row.doneCount) != 0, false);
            } else if (tokens.is(word, "ifdef")) {
                beginByName(true);
            } else if (tokens.is(word, "ifndef")) {
                beginByName(false);
            } else if (tokens.is(word, "else")) {
                require(lineLength == 2);
                turnLevel();
            } else {
                require(tokens.is(word, "endif") && lineLength == 2);
                endLevel();
            }
        }

        private void beginByName(boolean holdsWithBody) {
            require(isWordAt(2) && lineLength == 3);
            requireLevelRoom();
            beginLevel(names.find(tokens, line[2]) >= 0 == holdsWithBody, false);
        }

        private void requireLevelRoom() {
            if (levels >= MOST_LEVELS) {
                tokens.fail(ROOM);
            }
        }

        private void beginLevel(boolean itHolds, boolean inLinesLeftOut) {
            holds[levels] = itHolds;
            leftOut[levels] = inLinesLeftOut;
            turned[levels] = false;
            levels++;
        }

        private void turnLevel() {
            if (levels == 0 || turned[levels - 1]) {
                tokens.fail(LEVEL);
            }
            turned[levels - 1] = true;
            holds[levels - 1] = !holds[levels - 1] && !leftOut[levels - 1];
        }

        private void endLevel() {
            if (levels == 0) {
                tokens.fail(LEVEL);
            }
            levels--;
        }

        private void undefine() {
            require(isWordAt(2) && lineLength == 3);
            int name = names.find(tokens, line[2]);
            if (name >= 0) {
                names.words[name] = Tokens.NOTHING;
            }
        }

        private boolean hasBracketAtWord() {
            int wordEnd = Tokens.start(line[2]) + Tokens.length(line[2]);
            return isSignAt(3, '(') && Tokens.start(line[3]) == wordEnd;
        }

        /** How many parameters stand in the brackets behind a word; LINE if it isn't like that. */
        private int countParameters() {
            boolean like = isSignAt(4, ')');
            int count = 0;
            for (int at = 4; !like && at <= 2 + 2 * Names.MOST_PARAMETERS; at += 2) {
                require(isWordAt(at) && (isSignAt(at + 1, ',') || isSignAt(at + 1, ')')));
                for (int k = 4; k < at; k += 2) {
                    require(!tokens.same(line[k], line[at]));
                }
                count++;
                like = isSignAt(at + 1, ')');
            }
            require(like);
            return count;
        }

        private void define(int parameters) {
            // Ahead of the body stand # define W, or these and ( ), or these, the words and commas.
            int body = parameters < 0 ? 3 : parameters == 0 ? 5 : 4 + 2 * parameters;
            int length = lineLength - body;
            int name = names.find(tokens, line[2]);
            if (name < 0) {
                name = names.freePlace();
            }
            if (name < 0 || length > Names.MOST_TOKENS) {
                tokens.fail(ROOM);
            }
            names.words[name] = line[2];
            names.parameterCounts[name] = parameters;
            for (int k = 0; k < parameters; k++) {
                names.parameters[name * Names.MOST_PARAMETERS + k] = line[4 + 2 * k];
            }
            names.bodyLengths[name] = length;
            System.arraycopy(line, body, names.bodies, name * Names.MOST_TOKENS, length);
        }

        /** Makes the line an expression's tokens, each defined W a 1 or 0; how many there are. */
        private int answerDefined() {
            int count = 0;
            for (int k = 2; k < lineLength; k++) {
                boolean asks = isWordAt(k) && tokens.is(line[k], "defined");
                if (asks && isWordAt(k + 1)) {
                    line[count] = Tokens.digit(names.find(tokens, line[k + 1]) >= 0);
                    k++;
                } else if (asks && isSignAt(k + 1, '(') && isWordAt(k + 2) && isSignAt(k + 3, ')')) {
                    line[count] = Tokens.digit(names.find(tokens, line[k + 2]) >= 0);
                    k += 3;
                } else {
                    line[count] = line[k];
                }
                count++;
            }
            return count;
        }
    }
}
