/** Promise 4, sentence by sentence: the edges of pieces, of the input, of quotes and of macros. */
public final class FirstPieceEdgesTest {
    private static final String[] WITH_BRACKET = {"define", "pushdef", "popdef", "ifdef", "ifelse", "incr", "len", "shift"};
    /** 595 pieces that put 177 characters. */
    private static final String PIECES_595 = "define(a,`len(b)len(b)')" + "a ".repeat(59);
    private static final String PUT_177 = "11 ".repeat(59);

    public static void main(String[] args) {
        eachRunBeginsWithNothing();
        nothingIsLeftOfARunThatFailed();
        theTextStaysTyped();
        thereAre600Pieces();
        theLastPieceMayEndTheRun();
        aPieceThatFailsCounts();
        inputIsLimitedForDefinitions();
        inputIsLimitedForBuiltIns();
        quotesAreClosed();
        quotesNest();
        builtInsNeedABracket();
        theLatestDefinitionCounts();
        theBracketBelongsToThePiece();
        otherPiecesArePut();
        wordsHaveLettersAndDigits();
        argumentsAreOpenAtTheEnd();
        whatWasPutIsTheOutput();
        Mills.finish();
    }

    private static void pieces(TwoMills mills, int want) {
        Mills.states(mills, 2, want);
    }

    private static void eachRunBeginsWithNothing() {
        Mills.sentence("THE FIRST MILL begins without definitions and with an empty OUTPUT.");
        TwoMills mills = Mills.typed("define(a,b)a");
        Mills.first(mills);
        mills.clear();
        Mills.due("first() of no text", 0, Mills.first(mills));
        Mills.states(mills, 4, 0);
        Mills.states(mills, 6, 0);
        Mills.type(mills, "a");
        Mills.first(mills);
        Mills.due("the definition is gone", "a", Mills.output(mills));
        mills.clear();
        Mills.type(mills, "`");
        Mills.due("first() fails at once", -1, Mills.first(mills));
        Mills.due("the output is gone", "", Mills.output(mills));
    }

    private static void nothingIsLeftOfARunThatFailed() {
        Mills.sentence("THE FIRST MILL begins without definitions and with an empty OUTPUT.");
        String ten = "";
        for (int k = 0; k < 10; k++) {
            ten += "define(b" + k + "," + k + ")";
        }
        String[] failing = {"len((a", "define(a,`1$1')a(popdef(`a')", "len(" + "x".repeat(201), "len(len(len(len(len(len(a", ten + "`"};
        TwoMills mills = new TwoMills();
        for (int round = 0; round < 50; round++) {
            mills.clear();
            Mills.type(mills, failing[round % failing.length]);
            Mills.due("first() fails", -1, Mills.first(mills));
            mills.clear();
            Mills.type(mills, ten + "b0`'b9 len(" + "y".repeat(200) + ")");
            Mills.due("first()", 6, Mills.first(mills));
            Mills.due("output", "09 200", Mills.output(mills));
        }
        mills.clear();
        Mills.type(mills, "define(x,`" + "z".repeat(40) + "')" + "x ".repeat(10));
        Mills.due("first() fails", -1, Mills.first(mills));
        mills.clear();
        Mills.type(mills, "`" + "y".repeat(398) + "'");
        Mills.due("first() has all its room again", 398, Mills.first(mills));
    }

    private static void theTextStaysTyped() {
        Mills.sentence("at first the text typed (which stays typed)");
        TwoMills mills = Mills.typed("len(ab)x`");
        Mills.due("first() fails", -1, Mills.first(mills));
        Mills.due("type", 10, mills.type('\'', 1));
        Mills.due("first()", 2, Mills.first(mills));
        Mills.due("first() again", 2, Mills.first(mills));
        Mills.due("output", "2x", Mills.output(mills));
        Mills.due("clear()", 10, mills.clear());
    }

    private static void thereAre600Pieces() {
        Mills.sentence("there are 600 pieces at most (SPENT instead of the next one");
        pieces(Mills.firstGives(PIECES_595, PUT_177), 595);
        pieces(Mills.firstGives(PIECES_595 + "1234", PUT_177 + "1234"), 599);
        pieces(Mills.firstGives(PIECES_595 + "12345", PUT_177 + "12345"), 600);
        pieces(Mills.firstFails(PIECES_595 + "123456", Mills.SPENT, PUT_177 + "12345"), 600);
        pieces(Mills.firstGives(PIECES_595 + "1234word", PUT_177 + "1234word"), 600);
        pieces(Mills.firstFails(PIECES_595 + "12345word", Mills.SPENT, PUT_177 + "12345"), 600);
        pieces(Mills.firstGives(PIECES_595 + "1234`more than one'", PUT_177 + "1234more than one"), 600);
        pieces(Mills.firstFails(PIECES_595 + "12345`more'", Mills.SPENT, PUT_177 + "12345"), 600);
        pieces(Mills.firstFails(PIECES_595 + "12345`", Mills.SPENT, PUT_177 + "12345"), 600);
        pieces(Mills.firstFails(PIECES_595 + "12345\n", Mills.SPENT, PUT_177 + "12345"), 600);
        pieces(Mills.firstFails("define(a,`a')a", Mills.SPENT, ""), 600);
    }

    private static void theLastPieceMayEndTheRun() {
        Mills.sentence("SPENT instead of the next one");
        pieces(Mills.firstGives(PIECES_595 + "1234dnl all behind", PUT_177 + "1234"), 600);
        pieces(Mills.firstFails(PIECES_595 + "12345dnl", Mills.SPENT, PUT_177 + "12345"), 600);
        pieces(Mills.firstGives(PIECES_595 + "12popdef(x)", PUT_177 + "12"), 600);
        pieces(Mills.firstFails(PIECES_595 + "123popdef(x)", Mills.SPENT, PUT_177 + "123"), 600);
        pieces(Mills.firstFails(PIECES_595 + "12len(x)", Mills.SPENT, PUT_177 + "12"), 600);
        pieces(Mills.firstFails(PIECES_595 + "1234len(", Mills.OPEN, PUT_177 + "1234"), 600);
        pieces(Mills.firstFails(PIECES_595 + "12345len(", Mills.SPENT, PUT_177 + "12345"), 600);
        pieces(Mills.firstFails(PIECES_595 + "1234a", Mills.SPENT, PUT_177 + "1234"), 600);
    }

    private static void aPieceThatFailsCounts() {
        Mills.sentence("one in which the mill FAILS counts");
        pieces(Mills.firstFails("`", Mills.QUOTE, ""), 1);
        pieces(Mills.firstFails("incr(x)", Mills.NUMBER, ""), 3);
        pieces(Mills.firstFails("len(", Mills.OPEN, ""), 1);
        pieces(Mills.firstFails(PIECES_595 + "1234`", Mills.QUOTE, PUT_177 + "1234"), 600);
        pieces(Mills.firstFails(PIECES_595 + "12incr(x)", Mills.NUMBER, PUT_177 + "12"), 600);
        pieces(Mills.firstFails(PIECES_595 + "123incr(x)", Mills.SPENT, PUT_177 + "123"), 600);
        String most = PIECES_595 + "1234`" + "x".repeat(219) + "'";
        pieces(Mills.firstGives(most, PUT_177 + "1234" + "x".repeat(219)), 600);
        String over = PIECES_595 + "1234`" + "x".repeat(220) + "'";
        pieces(Mills.firstFails(over, Mills.ROOM, PUT_177 + "1234" + "x".repeat(219)), 600);
    }

    private static void inputIsLimitedForDefinitions() {
        Mills.sentence("and at most 500 characters of input (ROOM)");
        // f's text has 188 characters, and its dnl drops what came and all behind it.
        String call = "define(f,`dnl  $1$1$1')f(" + "z".repeat(61) + ")";
        pieces(Mills.firstGives(call + "y".repeat(312), ""), 9);
        pieces(Mills.firstFails(call + "y".repeat(313), Mills.ROOM, ""), 8);
        Mills.sentence("a text comes ahead of the input (ROOM, if it is too long for it)");
        String alone = "$1$1$1$1$1')f(" + "z".repeat(99) + ")";
        Mills.firstGives("define(f,`dnl  " + alone, "");
        Mills.firstFails("define(f,`dnl   " + alone, Mills.ROOM, "");
        Mills.firstFails("define(f,`dnl  " + alone + "y", Mills.ROOM, "");
        Mills.firstGives("define(f,`dnl $1$1$1$1$1x')f(" + "z".repeat(99) + ")", "");
        Mills.firstFails("define(f,`dnl $1$1$1$1$1xy')f(" + "z".repeat(99) + ")", Mills.ROOM, "");
        Mills.firstFails("-define(f,`dnl$1$1$1$1$1$1')f(" + "z".repeat(200) + ")", Mills.ROOM, "-");
        // f brings a and 201 characters; a, without brackets, is 1 character and brings 40.
        String nested = "define(a,`dnl " + "x".repeat(36) + "')define(f,`a $1$1$1$1$1')f(" + "z".repeat(40) + ")";
        Mills.firstGives(nested + "y".repeat(259), "");
        Mills.firstFails(nested + "y".repeat(260), Mills.ROOM, "");
    }

    private static void inputIsLimitedForBuiltIns() {
        Mills.sentence("a text comes ahead of the input (ROOM, if it is too long for it)");
        String word = "z".repeat(40);
        String define = "define(x,`" + word + "')";
        String shift = define + "shift(,x,x,x,x)dnl ";
        Mills.firstGives(shift + "y".repeat(325), word + "," + word + "," + word + "," + word);
        Mills.firstFails(shift + "y".repeat(326), Mills.ROOM, "");
        String five = "x`'x`'x`'x`'x)";
        Mills.firstGives(define + "ifelse(,," + five + " dnl " + "y".repeat(295), word.repeat(5) + " ");
        Mills.firstFails(define + "ifelse(,," + five + " dnl " + "y".repeat(296), Mills.ROOM, "");
        Mills.firstGives(define + "ifdef(,," + five + " dnl " + "y".repeat(295), word.repeat(5) + " ");
        Mills.firstFails(define + "ifdef(,," + five + " dnl " + "y".repeat(296), Mills.ROOM, "");
    }

    private static void quotesAreClosed() {
        Mills.sentence("from a ` up to the ' that closes it (they nest; QUOTE, when it isn't closed)");
        pieces(Mills.firstGives("`'", ""), 1);
        pieces(Mills.firstGives("`" + "x".repeat(398) + "'", "x".repeat(398)), 1);
        pieces(Mills.firstFails("`" + "x".repeat(399), Mills.QUOTE, ""), 1);
        pieces(Mills.firstFails("a`", Mills.QUOTE, "a"), 2);
        pieces(Mills.firstGives("'", "'"), 1);
        pieces(Mills.firstGives("a''b", "a''b"), 4);
        pieces(Mills.firstGives("`a''", "a'"), 2);
        Mills.firstFails("len(`a)", Mills.QUOTE, "");
        Mills.firstFails("define(a,`x)a'b`", Mills.QUOTE, "");
        Mills.firstFails("define(a,``x')a", Mills.QUOTE, "");
        Mills.firstGives("`a\nb'", "a\nb");
    }

    private static void quotesNest() {
        Mills.sentence("they nest");
        pieces(Mills.firstGives("``''", "`'"), 1);
        pieces(Mills.firstFails("``'", Mills.QUOTE, ""), 1);
        pieces(Mills.firstGives("``'`''x", "`'`'x"), 2);
        pieces(Mills.firstGives("`".repeat(200) + "'".repeat(200), "`".repeat(199) + "'".repeat(199)), 1);
        pieces(Mills.firstFails("`".repeat(200) + "'".repeat(199), Mills.QUOTE, ""), 1);
    }

    private static void builtInsNeedABracket() {
        Mills.sentence("or it is another BUILT-IN one (define, pushdef, popdef, ifdef, ifelse, incr, len, shift) and the character behind it is a \"(\"");
        for (String word : WITH_BRACKET) {
            pieces(Mills.firstGives(word, word), 1);
            pieces(Mills.firstGives(word + " (a)", word + " (a)"), 5);
            pieces(Mills.firstGives(word + "\n(a)", word + "\n(a)"), 5);
            pieces(Mills.firstGives(word + "`'(a)", word + "(a)"), 5);
            pieces(Mills.firstGives(word + ")", word + ")"), 2);
            pieces(Mills.firstFails(word + "(", Mills.OPEN, ""), 1);
            Mills.firstFails("define(x,`" + word + "')x(5", Mills.OPEN, "");
        }
        Mills.firstGives("define(x,`len')x(5) x", "len len");
        Mills.firstGives("define(x,`len(`5')')x", "1");
        pieces(Mills.firstGives("dnl", ""), 1);
    }

    private static void theLatestDefinitionCounts() {
        Mills.sentence("there is a DEFINITION of it (the latest one counts, also of a word that is BUILT-IN)");
        for (String word : new String[] {"define", "pushdef", "popdef", "ifdef", "ifelse", "incr", "len", "shift", "dnl"}) {
            Mills.firstGives("define(`" + word + "',`<$#>')" + word + " " + word + "()" + word + "(1,2)", "<0> <1><2>");
        }
        Mills.firstGives("pushdef(`a',1)pushdef(`a',2)pushdef(`a',3)a", "3");
        Mills.firstGives("pushdef(`len',1)pushdef(`len',2)popdef(`len')len()popdef(`len')len()", "10");
        Mills.firstGives("pushdef(`dnl',1)dnl popdef(`dnl')dnl 2", "1 ");
    }

    private static void theBracketBelongsToThePiece() {
        Mills.sentence("If (but for the built-in dnl) the character behind it is a \"(\", that belongs to the piece");
        pieces(Mills.firstGives("len()", "0"), 3);
        pieces(Mills.firstGives("dnl(\n)", ")"), 2);
        pieces(Mills.firstGives("dnl(", ""), 1);
        Mills.firstFails("define(`dnl',x)dnl(", Mills.OPEN, "");
        Mills.sentence("otherwise it is CALLED at once, without any");
        pieces(Mills.firstGives("define(a,`[$#$1]')a", "[0]"), 9);
        Mills.firstGives("define(a,`[$#$1]')a (x)", "[0] (x)");
        Mills.firstGives("define(a,`[$#$1]')a\n(x)", "[0]\n(x)");
        Mills.firstGives("define(a,`b')define(b,`[$#]')a(x)", "[0]");
        Mills.firstGives("define(a,`b')define(b,`[$#]')a`'(x)", "[0](x)");
    }

    private static void otherPiecesArePut() {
        Mills.sentence("Or it is any other word, or any other character: PUT.");
        pieces(Mills.firstGives("x", "x"), 1);
        pieces(Mills.firstGives("_", "_"), 1);
        pieces(Mills.firstGives("_9aZ", "_9aZ"), 1);
        pieces(Mills.firstGives("9aZ_", "9aZ_"), 2);
        pieces(Mills.firstGives("99", "99"), 2);
        pieces(Mills.firstGives("x".repeat(400), "x".repeat(400)), 1);
        pieces(Mills.firstGives("7".repeat(400), "7".repeat(400)), 400);
        pieces(Mills.firstGives("),(", "),("), 3);
        Mills.firstGives("define(a,b)aa a1 a_ _a A 1a", "aa a1 a_ _a A 1b");
    }

    private static void wordsHaveLettersAndDigits() {
        Mills.sentence("A WORD is a letter or \"_\", and all letters, digits and \"_\" that follow.");
        for (int c = 32; c < 127; c++) {
            boolean digit = c >= '0' && c <= '9';
            boolean letter = c >= 'a' && c <= 'z' || c >= 'A' && c <= 'Z' || c == '_';
            if (c != '`') {
                String text = String.valueOf((char) c);
                pieces(Mills.firstGives("x" + text, "x" + text), letter || digit ? 1 : 2);
                pieces(Mills.firstGives(text + "x", text + "x"), letter ? 1 : 2);
            }
        }
        Mills.sentence("BLANKS are 10 and 32.");
        for (int c = 10; c < 127; c = c == 10 ? 32 : c + 1) {
            boolean blank = c == 10 || c == 32;
            if ("`(),".indexOf(c) < 0) {
                Mills.firstGives("len(" + (char) c + "`'x)", blank ? "1" : "2");
            }
        }
    }

    private static void argumentsAreOpenAtTheEnd() {
        Mills.sentence("At the input's end the mill is through (OPEN, when arguments are being collected).");
        pieces(Mills.firstGives("", ""), 0);
        Mills.firstFails("x len(a", Mills.OPEN, "x ");
        Mills.firstFails("len(a,", Mills.OPEN, "");
        Mills.firstFails("len((a)", Mills.OPEN, "");
        Mills.firstFails("len(len(a)", Mills.OPEN, "");
        Mills.firstFails("len(`)'", Mills.OPEN, "");
        Mills.firstFails("len(a dnl)", Mills.OPEN, "");
        Mills.firstFails("define(a,`len(')a", Mills.OPEN, "");
        Mills.firstGives("len(len(a))", "1");
        Mills.firstGives("define(a,`len(')a x)", "1");
    }

    private static void whatWasPutIsTheOutput() {
        Mills.sentence("UnsupportedOperationException: it FAILED; what was put until then is its OUTPUT.");
        Mills.states(Mills.firstFails("ab`", Mills.QUOTE, "ab"), 6, 2);
        Mills.states(Mills.firstFails("ab len(cd", Mills.OPEN, "ab "), 6, 3);
        Mills.states(Mills.firstFails("ab incr(cd)ef", Mills.NUMBER, "ab "), 6, 3);
        Mills.states(Mills.firstFails("ab shift(,,,,,)ef", Mills.ROOM, "ab "), 6, 3);
        Mills.states(Mills.firstFails("ab define(a,`a')a", Mills.SPENT, "ab "), 6, 3);
    }
}
