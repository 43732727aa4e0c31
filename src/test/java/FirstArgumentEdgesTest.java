/** Promise 4, sentence by sentence: the edges of what is put, and of arguments. */
public final class FirstArgumentEdgesTest {
    private static final String WORD = "z".repeat(40);
    /** Puts 328 characters. */
    private static final String PUTS_328 = "define(x,`" + WORD + "')" + "x ".repeat(8);
    private static final String PUT_328 = (WORD + " ").repeat(8);

    public static void main(String[] args) {
        outputHas400();
        asMuchComesAsFits();
        theLatestMacroCollects();
        bracketsOpenAndClose();
        commasEndArguments();
        firstBlanksAreDropped();
        otherBlanksAreKept();
        sixMacrosAreCollected();
        fiveArgumentsAreCollected();
        charactersAreCollected();
        charactersAreSharedAndGivenBack();
        aFullRoomTakesNothingMore();
        Mills.finish();
    }

    private static void outputHas400() {
        Mills.sentence("to the OUTPUT (400 characters: ROOM)");
        Mills.states(Mills.firstGives("y\n".repeat(200), "y\n".repeat(200)), 6, 400);
        Mills.states(Mills.firstGives(PUTS_328 + "y".repeat(71), PUT_328 + "y".repeat(71)), 6, 399);
        Mills.states(Mills.firstGives(PUTS_328 + "y".repeat(72), PUT_328 + "y".repeat(72)), 6, 400);
        Mills.states(Mills.firstFails(PUTS_328 + "y".repeat(73), Mills.ROOM, PUT_328 + "y".repeat(72)), 6, 400);
        String full = PUTS_328 + "y".repeat(72);
        String put = PUT_328 + "y".repeat(72);
        for (String nothing : new String[] {"`'", "`'dnl", "`'popdef()", "`'define(q,1)", "`'ifelse(a,b,c)"}) {
            TwoMills mills = Mills.typed(full + nothing);
            Mills.first(mills);
            Mills.due("nothing is put by " + nothing, put, Mills.output(mills));
            Mills.states(mills, 0, 0);
        }
        Mills.firstFails(full + "`'len(a", Mills.OPEN, put);
        Mills.firstFails(full + "`", Mills.QUOTE, put);
        for (String more : new String[] {" ", "\n", "7", "(", ")", ",", "'", "`'b", "`b'", "`'len()"}) {
            Mills.firstFails(full + more, Mills.ROOM, put);
        }
    }

    private static void asMuchComesAsFits() {
        Mills.sentence("of what is PUT where there is no room as much comes as fits, there and in the OUTPUT");
        String nearly = PUTS_328 + "y".repeat(69) + " ";
        String put = PUT_328 + "y".repeat(69) + " ";
        Mills.firstGives(nearly + "ab", put + "ab");
        Mills.firstFails(nearly + "abc", Mills.ROOM, put + "ab");
        Mills.firstFails(nearly + "`a c'", Mills.ROOM, put + "a ");
        Mills.firstFails(nearly + "x", Mills.ROOM, put + "zz");
        Mills.firstFails(nearly + "123", Mills.ROOM, put + "12");
        Mills.firstFails(nearly + "`" + "c".repeat(200) + "'", Mills.ROOM, put + "cc");
        // What an argument takes is no output, though it failed there.
        Mills.firstFails("ab len(" + "c".repeat(201), Mills.ROOM, "ab ");
    }

    private static void theLatestMacroCollects() {
        Mills.sentence("What is PUT goes to the argument that is being collected (of the latest macro that is)");
        Mills.firstGives("define(f,`[$1]')a`'f(b`'f(c)d)e", "a[b[c]d]e");
        Mills.firstGives("define(f,`[$1|$2]')f(a,f(b,c))f(f(a,b),c)", "[a|[b|c]][[a|b]|c]");
    }

    private static void bracketsOpenAndClose() {
        Mills.sentence("a \"(\" is put, and OPENS one more; a \")\" is put, and closes one, if any is open");
        Mills.firstGives("len(())", "2");
        Mills.firstGives("len(()())", "4");
        Mills.firstGives("len((()))", "4");
        Mills.firstGives("len(" + "(".repeat(100) + ")".repeat(100) + ")", "200");
        Mills.firstFails("len(" + "(".repeat(100) + ")".repeat(100), Mills.OPEN, "");
        Mills.firstGives("len())", "0)");
        Mills.firstGives("len(`(')", "1");
        Mills.firstGives("len(`)'(`)'))", "4");
        Mills.firstGives("len((len(a,b)))", "3");
        Mills.firstGives("len(len((a)))", "1");
        Mills.firstGives("(len(a))", "(1)");
    }

    private static void commasEndArguments() {
        Mills.sentence("if none is: a \",\" ends the argument, and the next one begins");
        String define = "define(f,`$#<$1|$2|$3>')";
        Mills.firstGives(define + "f(a,b,c)", "3<a|b|c>");
        Mills.firstGives(define + "f(,)", "2<||>");
        Mills.firstGives(define + "f((,),(,))", "2<(,)|(,)|>");
        Mills.firstGives(define + "f(`a,b')", "1<a,b||>");
        Mills.firstGives(define + "f(`',`')", "2<||>");
        Mills.firstGives(define + "f(()a,b)", "2<()a|b|>");
        Mills.firstGives("a,b", "a,b");
    }

    private static void firstBlanksAreDropped() {
        Mills.sentence("BLANKS that would be the argument's first character are dropped, as many as there are (not quoted ones).");
        Mills.firstGives("len( a)", "1");
        Mills.firstGives("len(\na)", "1");
        Mills.states(Mills.firstGives("len(" + " \n".repeat(150) + "a)", "1"), 2, 304);
        Mills.firstGives("len( )", "0");
        Mills.firstGives("define(f,`$#<$1|$2>')f( a, \n b)f( )f( , )", "2<a|b>1<|>2<|>");
        Mills.firstGives("len(` a')", "2");
        Mills.firstGives("len(` ' a)", "3");
        Mills.firstGives("len(`' a)", "1");
        Mills.firstGives("len( `' a)", "1");
        Mills.firstGives("define(b,`  x')len(b)", "1");
        Mills.firstGives("define(b,``  x'')len(b)", "3");
        Mills.firstGives("define(b,`')len(b a)", "1");
        Mills.firstGives("len(popdef() a)", "1");
    }

    private static void otherBlanksAreKept() {
        Mills.sentence("BLANKS that would be the argument's first character");
        Mills.firstGives("len(a )", "2");
        Mills.firstGives("len(a\n)", "2");
        Mills.firstGives("len(a  b)", "4");
        Mills.firstGives("len(( a))", "4");
        Mills.firstGives("len(1 ,)", "2");
        Mills.firstGives(" \n a", " \n a");
        Mills.firstGives("len(a) b", "1 b");
    }

    private static String nested(int macros, String inner) {
        return "len(".repeat(macros) + inner + ")".repeat(macros);
    }

    private static void sixMacrosAreCollected() {
        Mills.sentence("At most 6 macros are collected at once");
        Mills.states(Mills.firstGives(nested(6, "ab"), "1"), 2, 19);
        Mills.states(Mills.firstFails("x " + nested(7, "ab"), Mills.ROOM, "x "), 2, 9);
        Mills.sentence("ROOM, at the seventh one's \"(\"");
        Mills.states(Mills.firstFails("len(".repeat(6), Mills.OPEN, ""), 2, 6);
        Mills.states(Mills.firstFails("len(".repeat(7), Mills.ROOM, ""), 2, 7);
        Mills.firstGives(nested(6, "x(a)"), "1");
        Mills.firstGives(nested(6, "len"), "1");
        Mills.firstGives("define(a,5)" + nested(6, "a"), "1");
        Mills.firstFails("define(a,5)" + nested(6, "a()"), Mills.ROOM, "");
        Mills.firstGives(nested(5, "len(a)`'len(b)"), "1");
        Mills.firstGives("len(".repeat(6) + "dnl(\n" + ")".repeat(6), "1");
        Mills.firstGives(nested(6, "a") + nested(6, "b"), "11");
    }

    private static void fiveArgumentsAreCollected() {
        Mills.sentence("5 arguments each");
        Mills.firstGives("shift(a,b,c,d,e)", "b,c,d,e");
        Mills.firstGives("define(f,`$#$5')f(,,,,)f(a,b,c,d,e)", "55e");
        Mills.firstGives("len(,,,,)define(a,b,c,d,e)popdef(`a',,,,)ifdef(a,b,c,d,e) ifelse(a,b,c,d,e) incr(1,,,,)", "0c d 2");
        Mills.sentence("at the sixth one's \",\"");
        Mills.states(Mills.firstFails("shift(a,b,c,d,e", Mills.OPEN, ""), 2, 10);
        Mills.states(Mills.firstFails("shift(a,b,c,d,e,", Mills.ROOM, ""), 2, 11);
        Mills.states(Mills.firstFails("x shift(a,b,c,d,e,f)", Mills.ROOM, "x "), 2, 13);
        Mills.firstFails("len(,,,,,)", Mills.ROOM, "");
        Mills.firstFails("define(f,`$#')f(,,,,,)", Mills.ROOM, "");
        Mills.firstGives("len((,,,,,,),`,,,,,,',,,)", "8");
        Mills.firstGives("define(f,`$#')f(f(,,,,),f(,,,,),f(,,,,),,)", "5");
        Mills.firstFails("define(f,`$#')f(f(,,,,,))", Mills.ROOM, "");
    }

    private static void charactersAreCollected() {
        Mills.sentence("200 characters of all that are being collected together");
        Mills.firstGives("len(" + "y".repeat(199) + ")", "199");
        Mills.firstGives("len(" + "y".repeat(200) + ")", "200");
        Mills.firstFails("a len(" + "y".repeat(201) + ")", Mills.ROOM, "a ");
        Mills.firstGives("len(" + "7".repeat(200) + ")", "200");
        Mills.states(Mills.firstFails("len(" + "7".repeat(201) + ")", Mills.ROOM, ""), 2, 202);
        Mills.firstGives("len(`" + " ".repeat(200) + "')", "200");
        Mills.firstFails("len(`" + " ".repeat(201) + "')", Mills.ROOM, "");
        Mills.firstGives("len(" + "y".repeat(198) + "())", "200");
        Mills.firstFails("len(" + "y".repeat(199) + "())", Mills.ROOM, "");
        String forty = "," + "y".repeat(40);
        Mills.firstGives("len(" + "y".repeat(40) + forty.repeat(4) + ")", "40");
        Mills.firstFails("len(" + "y".repeat(40) + forty.repeat(4) + "y)", Mills.ROOM, "");
    }

    private static void charactersAreSharedAndGivenBack() {
        Mills.sentence("200 characters of all that are being collected together");
        Mills.firstGives("len(" + "x".repeat(120) + ",len(" + "y".repeat(80) + "))", "120");
        Mills.firstFails("len(" + "x".repeat(120) + ",len(" + "y".repeat(81) + "))", Mills.ROOM, "");
        Mills.firstGives("len(" + "x".repeat(50) + ",len(" + "y".repeat(50) + ",len(" + "z".repeat(100) + ")))", "50");
        Mills.firstFails("len(" + "x".repeat(50) + ",len(" + "y".repeat(50) + ",len(" + "z".repeat(101) + ")))", Mills.ROOM, "");
        Mills.sentence("the macro is CALLED (and is collected no more)");
        Mills.firstGives("len(len(" + "y".repeat(190) + ")`" + "x".repeat(190) + "')", "193");
        Mills.firstGives("len(len(" + "y".repeat(150) + ")`" + "x".repeat(197) + "')", "200");
        Mills.firstFails("len(len(" + "y".repeat(150) + ")`" + "x".repeat(198) + "')", Mills.ROOM, "");
    }

    private static void aFullRoomTakesNothingMore() {
        Mills.sentence("200 characters of all that are being collected together");
        String full = "y".repeat(200);
        for (String fits : new String[] {"", "`'", ",", ", \n", ",`'", "popdef()", "`'dnl\n", ",,,,"}) {
            String ahead = fits.startsWith("p") ? "`" + full + "'" : full;
            Mills.firstGives("len(" + ahead + fits + ")", "200");
        }
        for (String over : new String[] {" ", "\n", "(", "`x'", ",x", "'", "`'x", "`'len()"}) {
            Mills.firstFails("len(" + full + over + ")", Mills.ROOM, "");
        }
    }
}
