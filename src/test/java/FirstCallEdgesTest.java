/** Promise 4, sentence by sentence: the edges of calls, of the built-in words and of definitions. */
public final class FirstCallEdgesTest {
    private static final String[] NO_WORDS = {"", " ", "1", "1a", "-", "a-", "`a b'", "a ", "a\n", "`a('", "$", "abcdefghi", "_23456789", "`,'"};

    public static void main(String[] args) {
        aDefinitionMayHaveGone();
        theTextIsAsItIsByThen();
        missingArgumentsAreNothing();
        theWordAndTheCountStandThere();
        otherSignsStandForThemselves();
        missingArgumentsOfBuiltInsAreEmpty();
        defineWantsAWord();
        pushdefMakesANewOne();
        popdefTakesTheLatest();
        ifdefChooses();
        ifelseChooses();
        incrCounts();
        incrWantsANumber();
        lenMeasures();
        shiftQuotes();
        dnlDrops();
        thereAreTenDefinitions();
        definitionsComeAndGo();
        textsHave40();
        Mills.finish();
    }

    private static void definitions(TwoMills mills, int want) {
        Mills.states(mills, 4, want);
    }

    private static void aDefinitionMayHaveGone() {
        Mills.sentence("For a definition (the one that was found at the word, though it may have gone)");
        definitions(Mills.firstGives("define(a,`1$1')a(popdef(`a')x)", "1x"), 0);
        definitions(Mills.firstGives("define(a,`1$1')a(popdef(`a')define(`a',2)x)", "1x"), 1);
        definitions(Mills.firstGives("define(a,`1$1')a(popdef(`a')pushdef(`b',2)x) b", "1x 2"), 1);
        definitions(Mills.firstGives("define(a,`1$1')a(pushdef(`a',2)x) a", "1x 2"), 2);
        definitions(Mills.firstGives("define(a,`1$1')a(a(popdef(`a')x)y) a", "11xy a"), 0);
        // Five that are being collected have gone, and ten others are there.
        StringBuilder text = new StringBuilder();
        for (int k = 0; k < 5; k++) {
            text.append("pushdef(`a',`").append(k).append("$1')a(popdef(`a')");
        }
        for (char c = 'b'; c < 'l'; c++) {
            text.append("define(").append(c).append(",x)");
        }
        definitions(Mills.firstGives(text + "k)))))", "01234x"), 10);
        definitions(Mills.firstFails(text + "k))))) pushdef(q,1)", Mills.ROOM, "01234x "), 10);
    }

    private static void theTextIsAsItIsByThen() {
        Mills.sentence("its own text, as it is by then");
        Mills.firstGives("define(a,`1$1')a(define(`a',`2$1')x)", "2x");
        Mills.firstGives("define(a,`1$1')a(define(`a')x)", "");
        Mills.firstGives("pushdef(`a',`1')pushdef(`a',`2$1')a(popdef(`a')define(`a',`3')x) a", "2x 3");
        Mills.firstGives("define(a,`1$1')a(pushdef(`a',2)define(`a',3)x) a", "1x 3");
    }

    private static void missingArgumentsAreNothing() {
        Mills.sentence("in which $ and a digit 1 .. 9 stand for that argument (nothing, if there are not so many)");
        Mills.firstGives("define(f,`[$1$2$3$4$5$6$7$8$9]')f f() f(a) f(a,b,c,d,e)", "[] [] [a] [abcde]");
        Mills.firstGives("define(f,`$5')f(a,b,c,d)-f(a,b,c,d,e)", "-e");
        Mills.firstGives("define(f,`$10$11')f(x)", "x0x1");
        Mills.firstGives("define(f,`[$1]')len(f)len(abc,f)", "23");
        Mills.firstGives("define(f,`[$1$2]')define(g,`f')g(abc,f)", "[]");
        Mills.firstGives("define(f,`$1')f(`$1')f(`$2',b)", "$1$2");
    }

    private static void theWordAndTheCountStandThere() {
        Mills.sentence("$0 for the word, and $# for how many arguments there were (0 without brackets, 1 for empty ones)");
        Mills.firstGives("define(f,`$#')f f() f( ) f(`') f(,) f(a,b) f(a,b,c) f(a,b,c,d) f(,,,,)", "0 1 1 1 2 2 3 4 5");
        Mills.firstGives("define(f,``$0'')f f() f(a)", "f f f");
        Mills.firstGives("define(abcdefgh,``$0$0'')abcdefgh", "abcdefghabcdefgh");
        Mills.firstGives("define(f,``$0'')f(popdef(`f'))", "f");
        Mills.firstGives("define(f,``$0'')define(g,`f')g", "f");
    }

    private static void otherSignsStandForThemselves() {
        Mills.sentence("any other $ stands for itself");
        Mills.firstGives("define(f,`$')f(x)", "$");
        Mills.firstGives("define(f,`$$')f(x)", "$$");
        Mills.firstGives("define(f,`$$1$')f(x)", "$x$");
        Mills.firstGives("define(f,`$$#')f(x)", "$1");
        Mills.firstGives("define(f,`$a$($ 1$/$:$\"')f(x)", "$a$($ 1$/$:$\"");
        Mills.firstGives("$1 $# $0", "$1 $# $0");
        Mills.firstGives("define(f,`$')f(x)1", "$1");
    }

    private static void missingArgumentsOfBuiltInsAreEmpty() {
        Mills.sentence("For the built-in ones (a missing argument is empty; more are not looked at, but by shift)");
        Mills.firstGives("define()pushdef()popdef()ifdef()ifelse()shift()x", "x");
        definitions(Mills.firstGives("define(a)pushdef(b)-a-b-", "---"), 2);
        Mills.firstGives("define(a,1)ifdef(`a')ifdef(`b',2)ifelse(a)ifelse(,)ifelse(1,2,3)x", "x");
        Mills.firstFails("incr()", Mills.NUMBER, "");
        Mills.firstGives("len()", "0");
        definitions(Mills.firstGives("define(a,1,2,3,4)pushdef(`a',5,6)a`'popdef(`a',`a')a", "51"), 1);
        Mills.firstGives("ifdef(q,1,2,3,4)ifelse(q,r,2,3,4)incr(1,x)len(ab,cde)", "2322");
    }

    private static void defineWantsAWord() {
        Mills.sentence("if the first argument is a WORD, all of it, of 8 characters at most");
        for (String word : NO_WORDS) {
            definitions(Mills.firstGives("define(" + word + ",b)-", "-"), 0);
            definitions(Mills.firstGives("pushdef(" + word + ",b)-", "-"), 0);
        }
        for (String word : new String[] {"a", "_", "Z", "_1", "abcdefgh", "_2345678"}) {
            definitions(Mills.firstGives("define(" + word + ",-)" + word, "-"), 1);
            definitions(Mills.firstGives("pushdef(" + word + ",-)" + word, "-"), 1);
        }
        Mills.firstGives("define(abcdefgh,-)abcdefghi", "abcdefghi");
        Mills.sentence("its latest definition gets the second one as its text, or a new one is made (else nothing happens); nothing comes");
        definitions(Mills.firstGives("define(a,1)define(`a',2)a", "2"), 1);
        definitions(Mills.firstGives("pushdef(`a',1)pushdef(`a',2)define(`a',3)a`'popdef(`a')a", "31"), 1);
        definitions(Mills.firstGives("define(a,1)define(`a')-a-", "--"), 1);
    }

    private static void pushdefMakesANewOne() {
        Mills.sentence("pushdef: likewise, but a new one in any case.");
        definitions(Mills.firstGives("pushdef(`a',1)a", "1"), 1);
        definitions(Mills.firstGives("pushdef(`a',1)pushdef(`a',1)a", "1"), 2);
        definitions(Mills.firstGives("define(a,1)pushdef(`a')-a-popdef(`a')a", "--1"), 1);
    }

    private static void popdefTakesTheLatest() {
        Mills.sentence("popdef: the first argument's latest definition goes, if there is one.");
        definitions(Mills.firstGives("popdef(a)popdef()popdef(1)popdef(`len')len(ab)", "2"), 0);
        definitions(Mills.firstGives("pushdef(`a',1)popdef(`b')popdef(aa)popdef()a", "1"), 1);
        definitions(Mills.firstGives("pushdef(`a',1)pushdef(`b',2)pushdef(`a',3)popdef(`a')a`'b", "12"), 2);
        definitions(Mills.firstGives("pushdef(`a',1)pushdef(`b',2)popdef(`a')a`'b", "a2"), 1);
        definitions(Mills.firstGives("pushdef(`a',1)popdef(`a')popdef(`a')popdef(`a')a", "a"), 0);
        String again = "pushdef(`a',-)a()popdef(`a')";
        definitions(Mills.firstGives(again.repeat(14) + "a", "-".repeat(14) + "a"), 0);
        definitions(Mills.firstGives("define(r,`" + again + "')" + "r`'".repeat(30), "-".repeat(30)), 1);
    }

    private static void ifdefChooses() {
        Mills.sentence("ifdef: the second argument if the first is a definition's word, else the third.");
        Mills.firstGives("define(a)ifdef(`a',1,2)ifdef(`aa',1,2)ifdef(,1,2)ifdef(`len',1,2)", "1222");
        Mills.firstGives("define(abcdefgh)ifdef(`abcdefgh',1,2)ifdef(`abcdefghi',1,2)ifdef(`abcdefg',1,2)", "122");
        Mills.firstGives("define(a)popdef(`a')ifdef(`a',1,2)", "2");
        Mills.firstGives("define(a,b)define(b,1)ifdef(a,3,2)", "2");
    }

    private static void ifelseChooses() {
        Mills.sentence("ifelse: the third if the first and the second are alike, else the fourth.");
        Mills.firstGives("ifelse(,,1,2)ifelse(a,,1,2)ifelse(,a,1,2)ifelse(a,a,1,2)ifelse(a,A,1,2)ifelse(ab,a,1,2)", "122122");
        Mills.firstGives("ifelse(a ,a,1,2)ifelse( a,a,1,2)ifelse(`a,',`a,',1,2)", "211");
        String long80 = "x".repeat(80);
        Mills.firstGives("ifelse(" + long80 + "," + long80 + ",1,2)", "1");
        Mills.firstGives("ifelse(" + long80 + "y," + long80 + "z,1,2)", "2");
        Mills.firstGives("ifelse(a,b,1,2,3)", "2");
    }

    private static void incrCounts() {
        Mills.sentence("incr: the first one as a number, and 1 more, in digits, perhaps behind a \"-\"");
        Mills.firstGives("incr(0) incr(9) incr(99) incr(00) incr(007)", "1 10 100 1 8");
        Mills.firstGives("incr(-1) incr(-0) incr(-2) incr(-10) incr(-100)", "0 1 -1 -9 -99");
        Mills.firstGives("incr(999999998) incr(999999999) incr(000000000)", "999999999 1000000000 1");
        Mills.firstGives("incr(-999999999) incr(-000000001) incr(-100000000)", "-999999998 0 -99999999");
        Mills.firstGives("incr( 5) incr(`5')", "6 6");
    }

    private static void incrWantsANumber() {
        Mills.sentence("NUMBER, unless it is 1 to 9 digits, perhaps behind a \"-\"");
        for (String wrong : new String[] {
            "", " ", "-", "--1", "+1", "1-", "a", "1a", "a1", "1 ", "1.0", "- 1", "1 1", "0000000000", "1000000000", "-1000000000",
            "-0000000001", "/", ":", "12:", "`'", ",5", "99999999999999999999",
        }) {
            Mills.firstFails("x incr(" + wrong + ")y", Mills.NUMBER, "x ");
        }
        Mills.firstFails("len(`" + "x".repeat(200) + "'incr())", Mills.NUMBER, "");
        Mills.firstFails("len(`" + "x".repeat(199) + "'incr(-))", Mills.NUMBER, "");
    }

    private static void lenMeasures() {
        Mills.sentence("len: how many characters the first one has.");
        Mills.firstGives("len()len(`')len( )len(a)", "0001");
        Mills.firstGives("len(123456789) len(1234567890) len(" + "x".repeat(99) + ") len(" + "x".repeat(100) + ")", "9 10 99 100");
        Mills.firstGives("len(" + "x".repeat(200) + ")", "200");
        Mills.firstGives("len(``'')len(`\n ')", "22");
    }

    private static void shiftQuotes() {
        Mills.sentence("shift: all but the first, each between ` and ', a \",\" between each two.");
        Mills.firstGives("-shift()-shift(a)-shift(,)-shift(a,b)-shift(,,)-shift(a,b,c,d,e)-", "----b-,-b,c,d,e-");
        Mills.states(Mills.firstGives("shift(a)", ""), 2, 3);
        Mills.states(Mills.firstGives("shift(a,b)", "b"), 2, 6);
        Mills.states(Mills.firstGives("shift(a,)", ""), 2, 5);
        Mills.firstGives("define(b,x)shift(a,`b')", "b");
        Mills.firstGives("shift(a,``b'')", "`b'");
        Mills.firstFails("shift(a,b`'``'`'c`)", Mills.QUOTE, "");
        Mills.firstGives("define(f,`$#')f(shift(a))f(shift(a,b))f(shift(a,b,c,d,e))", "114");
    }

    private static void dnlDrops() {
        Mills.sentence("dnl: nothing, and the input is dropped up to its next END, that too (all of it without one).");
        Mills.firstGives("a dnl", "a ");
        Mills.firstGives("a dnl b", "a ");
        Mills.firstGives("a dnl\nb", "a b");
        Mills.firstGives("a dnl b\n\nc", "a \nc");
        Mills.firstGives("dnl\n", "");
        Mills.firstGives("dnl `\nb", "b");
        Mills.firstGives("define(a,`dnl')a b\nc", "c");
        Mills.firstGives("define(a,`dnl b\nc')a d\ne", "c d\ne");
        Mills.firstGives("dnlb dnl1 _dnl dnl", "dnlb dnl1 _dnl ");
        Mills.firstGives("len(a dnl)\n)", "2");
    }

    private static String definitionsOf(int count) {
        StringBuilder text = new StringBuilder();
        for (int k = 0; k < count; k++) {
            text.append("define(a").append(k).append(",").append(k).append(")");
        }
        return text.toString();
    }

    private static void thereAreTenDefinitions() {
        Mills.sentence("There are 10 definitions at most");
        String nine = definitionsOf(9);
        String ten = definitionsOf(10);
        definitions(Mills.firstGives(nine + "a0`'a8", "08"), 9);
        definitions(Mills.firstGives(ten + "a0`'a9", "09"), 10);
        definitions(Mills.firstFails(ten + "x`'define(b,1)", Mills.ROOM, "x"), 10);
        definitions(Mills.firstFails(ten + "x`'pushdef(b,1)", Mills.ROOM, "x"), 10);
        definitions(Mills.firstFails(ten + "x`'pushdef(`a0',1)", Mills.ROOM, "x"), 10);
        definitions(Mills.firstFails(ten + "x`'define(`len',1)", Mills.ROOM, "x"), 10);
        definitions(Mills.firstGives(ten + "define(`a0',x)a0", "x"), 10);
        definitions(Mills.firstGives(ten + "define(`a9',x)a9", "x"), 10);
        definitions(Mills.firstGives(ten + "define(1,x)pushdef(,x)define(abcdefghi,x)a9", "9"), 10);
        definitions(Mills.firstGives(ten + "popdef(`a5')define(b,x)b`'a4`'a6`'a5", "x46a5"), 10);
        definitions(Mills.firstFails(ten + "popdef(`a5')define(b,x)b`'define(c,x)", Mills.ROOM, "x"), 10);
        String pushed = "pushdef(`a',1)".repeat(10);
        definitions(Mills.firstGives(pushed + "a", "1"), 10);
        definitions(Mills.firstFails(pushed + "pushdef(`a',1)", Mills.ROOM, ""), 10);
    }

    private static void definitionsComeAndGo() {
        Mills.sentence("popdef: the first argument's latest definition goes, if there is one.");
        // Each of three goes in the place of another, and the other ones keep theirs.
        String three = "pushdef(`a',1)pushdef(`b',2)pushdef(`c',3)";
        for (String gone : new String[] {"a", "b", "c"}) {
            String left = "abc".replace(gone, "");
            String all = "a`'b`'c`'d`'e ";
            String due = "123".replace(gone.equals("a") ? "1" : gone.equals("b") ? "2" : "3", gone);
            definitions(Mills.firstGives(three + "popdef(`" + gone + "')pushdef(`d',4)" + all, due + "4e "), 3);
            definitions(Mills.firstGives(three + "popdef(`" + gone + "')pushdef(`d',4)pushdef(`e',5)" + all, due + "45 "), 4);
            String next = left.substring(0, 1);
            definitions(Mills.firstGives(three + gone + "(popdef(`" + gone + "')pushdef(`d',4)pushdef(`e',5))`'" + next + "`'d`'e",
                    (gone.charAt(0) - 'a' + 1) + "" + (next.charAt(0) - 'a' + 1) + "45"), 4);
        }
    }

    private static void textsHave40() {
        Mills.sentence("their texts have up to 40 characters (ROOM)");
        for (String define : new String[] {"define", "pushdef"}) {
            definitions(Mills.firstGives("-" + define + "(a,)a-", "--"), 1);
            definitions(Mills.firstGives("-" + define + "(a," + "x".repeat(39) + ")a", "-" + "x".repeat(39)), 1);
            definitions(Mills.firstGives("-" + define + "(a," + "x".repeat(40) + ")a", "-" + "x".repeat(40)), 1);
            definitions(Mills.firstFails("-" + define + "(a," + "x".repeat(41) + ")a", Mills.ROOM, "-"), 0);
            definitions(Mills.firstFails("-" + define + "(a,b)" + define + "(`a'," + "x".repeat(41) + ")a", Mills.ROOM, "-"), 1);
            definitions(Mills.firstFails("-" + define + "(a,`" + "$1".repeat(20) + " ')a", Mills.ROOM, "-"), 0);
            definitions(Mills.firstGives("-" + define + "(a,`" + "$1".repeat(20) + "')a(123)", "-" + "123".repeat(20)), 1);
            definitions(Mills.firstGives("-" + define + "(1," + "x".repeat(41) + ")a", "-a"), 0);
            definitions(Mills.firstGives("-" + define + "(abcdefghi," + "x".repeat(41) + ")a", "-a"), 0);
        }
    }
}
