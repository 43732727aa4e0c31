/** Promise 4. */
public final class FirstTest {
    public static void main(String[] args) {
        plainTextIsPut();
        quotesNest();
        definitionsAreCalled();
        argumentsAreCollected();
        parametersAreReplaced();
        builtInsAreCalled();
        numbersAreIncremented();
        lastingDefinitions();
        piecesAreCounted();
        roomIsLimited();
        collectingIsLimited();
        definitionsAreLimited();
        eachRunBeginsAnew();
        Mills.finish();
    }

    private static void plainTextIsPut() {
        Mills.firstGives("", "");
        Mills.firstGives("a b\n c_1 + 2x, (y) $1 ' \"\n", "a b\n c_1 + 2x, (y) $1 ' \"\n");
        Mills.firstGives("define pushdef popdef ifdef ifelse incr len shift", "define pushdef popdef ifdef ifelse incr len shift");
        Mills.firstGives("len (ab) defined(ab) xlen(ab) len1(ab)", "len (ab) defined(ab) xlen(ab) len1(ab)");
        Mills.firstGives("1len(ab)", "12");
        Mills.firstGives("_len(ab)", "_len(ab)");
        Mills.firstGives("Alen(ab) Zlen(ab) zlen(ab) lenA(ab) lenZ(ab) lenz(ab) len0(ab) len9(ab)", "Alen(ab) Zlen(ab) zlen(ab) lenA(ab) lenZ(ab) lenz(ab) len0(ab) len9(ab)");
        Mills.firstGives("define(A,1)define(Z,2)define(z,3)define(_,4)A Z z _ a", "1 2 3 4 a");
        Mills.firstGives("@len(ab)[len(ab)^len(ab){len(ab)/len(ab):len(ab)", "@2[2^2{2/2:2");
    }

    private static void quotesNest() {
        Mills.firstGives("`a'", "a");
        Mills.firstGives("`'x`'", "x");
        Mills.firstGives("`a `b' ``c'''", "a `b' ``c''");
        Mills.firstGives("`len(ab)'len(`ab')", "len(ab)2");
        Mills.firstGives("define(`a',b)`a'a", "ab");
        Mills.due("pieces", 1, Mills.firstFails("`a", Mills.QUOTE, "").state(2));
        Mills.due("pieces", 3, Mills.firstFails("x ``a' b", Mills.QUOTE, "x ").state(2));
        Mills.firstFails("len(`)", Mills.QUOTE, "");
    }

    private static void definitionsAreCalled() {
        Mills.firstGives("define(a,b)a", "b");
        Mills.firstGives("define(`a',`b')define(`b',`c')a b aa", "c c aa");
        Mills.firstGives("define(a,1)define(`a',2)a", "2");
        Mills.firstGives("define(a,1)define(a,2)a", "1");
        Mills.firstGives("define(`define',x)define(a,b)`'define", "xx");
        Mills.firstGives("define(`dnl',x)dnl y\ndnl(z)", "x y\nx");
        Mills.firstGives("define(`len',`<$1>')len(ab)popdef(`len')len(ab)len", "<ab>2len");
        Mills.firstGives("define(ab,`c')define(c,`x')a`'b ab", "ab x");
        Mills.firstGives("define(b,`le')define(c,`n(ab)')b`'c", "len(ab)");
        Mills.firstGives("define(b,`len')b(abc)-define(c,`len(abc)')c", "len-3");
        Mills.firstGives("define(12,x)define(a b,y)define(,z)define(abcdefghi,q)12 a b abcdefghi", "12 a b abcdefghi");
        Mills.firstGives("define(abcdefgh,q)abcdefgh", "q");
        Mills.states(Mills.firstGives("define(abcdefghi,q)abcdefgh", "abcdefgh"), 4, 0);
        Mills.firstGives("define(a)a-", "-");
        Mills.firstGives("define(a,b,c,d)a", "b");
    }

    private static void argumentsAreCollected() {
        Mills.firstGives("len( \n  ab )", "3");
        Mills.firstGives("len(` ab')len(`' ab)", "32");
        Mills.firstGives("len((a,b),c)", "5");
        Mills.firstGives("len(((a),(b)),c)", "9");
        Mills.firstGives("len(`,)',c)", "2");
        Mills.firstGives("len(`(')", "1");
        Mills.firstGives("define(f,`$2-$1')f(a,b) f(f(1,2),f(3,4)) f( a ,\nb)", "b-a 4-3-2-1 b-a ");
        Mills.firstGives("define(c,`,')define(f,`[$1|$2]')f(a`'c`'b)", "[a|b]");
        Mills.firstGives("define(f,`[$1|$2]')define(c,`x,y')f(c)", "[x|y]");
        Mills.firstGives("len(ab\ndnl) x\ncd)", "5");
        Mills.firstFails("x len(ab", Mills.OPEN, "x ");
        Mills.firstFails("len(", Mills.OPEN, "");
        Mills.firstFails("define(a,`len(')a b", Mills.OPEN, "");
        Mills.firstFails("len(len(a)", Mills.OPEN, "");
    }

    private static void parametersAreReplaced() {
        Mills.firstGives("define(f,`$#')f f() f(a) f(,) f(a,b,c,d,e)", "0 1 1 2 5");
        Mills.firstGives("define(f,``$0'')f f(x)", "f f");
        Mills.firstGives("define(f,`<$1$9$2>')f f(a) f(a,b)", "<> <a> <ab>");
        Mills.firstGives("define(f,`$10')f(x)", "x0");
        Mills.firstGives("define(f,`$ $$1 $a $')f(x)", "$ $x $a $");
        Mills.firstGives("define(f,`$1')f(`$1',y)", "$1");
        Mills.firstGives("define(f,`$1')define(x,y)f(`x') f(``x'')", "y x");
    }

    private static void builtInsAreCalled() {
        Mills.firstGives("pushdef(`a',1)pushdef(`a',2)a popdef(`a')a popdef(`a')a popdef(`a')a", "2 1 a a");
        Mills.firstGives("pushdef(`a',1)pushdef(`b',3)pushdef(`a',2)define(`a',4)a popdef(`a')a`'b", "4 13");
        Mills.firstGives("pushdef(1,2)popdef(1)popdef(zz)popdef()x", "x");
        Mills.firstGives("define(a,1)ifdef(`a',y,n) ifdef(`b',y,n) ifdef(`define',y,n)-ifdef(`b',y)ifdef(`a')", "y n n-");
        Mills.firstGives("ifelse(a,a,y,n) ifelse(a,b,y,n) ifelse(a,ab,y,n) ifelse(,,y,n) ifelse(a,b,y)ifelse()x", "y n n y x");
        Mills.firstGives("ifelse(a,b,c,d,e)", "d");
        Mills.firstGives("ifelse(a,a,len(abc))ifelse(a,a,`len(`abcd')')", "34");
        Mills.firstGives("len()len(`')len(a b)len(abcdefghijk,z)", "00311");
        Mills.firstGives("shift(a,b,c)|shift(a)|shift()|shift(a,,c)", "b,c|||,c");
        Mills.firstGives("define(b,x)shift(a,b,`b')", "x,b");
        Mills.firstGives("define(f,`$#:$1')f(shift(a,`b',c))", "2:b");
        Mills.firstGives("a dnl b\nc dnl", "a c ");
        Mills.firstGives("dnl(a)\nb dnlx dnl x", "b dnlx ");
        Mills.firstGives("dnl`\n'", "'");
    }

    private static void numbersAreIncremented() {
        Mills.firstGives("incr(0) incr(9) incr(099) incr(-1) incr(-10) incr(-0)", "1 10 100 0 -9 1");
        Mills.firstGives("incr(999999999) incr(-999999999) incr(incr(5)) incr(3,x)", "1000000000 -999999998 7 4");
        for (String wrong : new String[] {"", "-", "a", "1a", "1 ", "+1", "--1", "1-", "1000000000", "-1000000000"}) {
            Mills.firstFails("x incr(" + wrong + ")y", Mills.NUMBER, "x ");
        }
    }

    private static void lastingDefinitions() {
        Mills.firstGives("define(a,`1$1')a(define(`a',`2$1')x) a(y)", "2x 2y");
        Mills.firstGives("define(a,`1$1')a(popdef(`a')x) a(y)", "1x a(y)");
        Mills.firstGives("define(a,`1$1')a(popdef(`a')define(`a',`2$1')x) a(y)", "1x 2y");
        Mills.firstGives("define(a,`1$1')a(pushdef(`a',`2$1')x) a(y)", "1x 2y");
        Mills.firstGives("define(a,`1`$0'$1')a(popdef(`a')define(b,2)define(c,3)b`'c)", "1a23");
        Mills.firstGives("len(define(`len',x)abc)len", "3x");
    }

    private static void piecesAreCounted() {
        Mills.states(Mills.firstGives("abc 12", "abc 12"), 2, 4);
        Mills.states(Mills.firstGives("len( a)", "1"), 2, 5);
        Mills.states(Mills.firstGives("``ab' c'", "`ab' c"), 2, 1);
        Mills.states(Mills.firstGives("dnl x y\n", ""), 2, 1);
        TwoMills spent = Mills.firstFails("-define(a,`a')a", Mills.SPENT, "-");
        Mills.states(spent, 2, 600);
        Mills.states(spent, 4, 1);
        Mills.states(Mills.firstFails("define(a,`1a')a", Mills.SPENT, "1".repeat(297)), 2, 600);
        exactly600();
    }

    private static void exactly600() {
        // The definition has 5 pieces; the word, both calls with what comes of them, and the blank 10.
        String define = "define(a,`len(b)len(b)')";
        Mills.states(Mills.firstGives(define + "a ".repeat(59) + "12345", "11 ".repeat(59) + "12345"), 2, 600);
        Mills.states(Mills.firstFails(define + "a ".repeat(59) + "123456", Mills.SPENT, "11 ".repeat(59) + "12345"), 2, 600);
        Mills.states(Mills.firstFails(define + "a ".repeat(59) + "1234`", Mills.QUOTE, "11 ".repeat(59) + "1234"), 2, 600);
    }

    private static void roomIsLimited() {
        String forty = "1234567890123456789012345678901234567890";
        String define = "define(a,`" + forty + "')";
        String nine = (forty + " ").repeat(9);
        Mills.firstGives(define + "a ".repeat(9) + "`" + "x".repeat(31) + "'", nine + "x".repeat(31));
        TwoMills full = Mills.firstFails(define + "a ".repeat(9) + "`" + "x".repeat(32) + "'", Mills.ROOM, nine + "x".repeat(31));
        Mills.states(full, 6, 400);
        Mills.firstFails(define + "a ".repeat(9) + "y".repeat(50), Mills.ROOM, nine + "y".repeat(31));
        Mills.firstFails(define + "a ".repeat(9) + "a", Mills.ROOM, nine + forty.substring(0, 31));
        inputIsLimited();
    }

    private static void inputIsLimited() {
        // dnl drops what came ahead and all behind it, so the output has room.
        String define = "define(f,`dnl  $1$1$1')";
        String fits = define + "f(" + "z".repeat(61) + ")";
        Mills.firstGives(fits + "y".repeat(500 - 188), "");
        Mills.firstFails(fits + "y".repeat(500 - 188 + 1), Mills.ROOM, "");
        Mills.firstFails("-define(f,`$1$1$1$1$1$1')f(" + "z".repeat(100) + ")", Mills.ROOM, "-");
    }

    private static void collectingIsLimited() {
        Mills.firstGives("len(len(len(len(len(len(a))))))", "1");
        Mills.states(Mills.firstFails("x len(len(len(len(len(len(len(a)))))))", Mills.ROOM, "x "), 2, 9);
        Mills.firstGives("shift(a,b,c,d,e)", "b,c,d,e");
        Mills.states(Mills.firstFails("x shift(a,b,c,d,e,f)", Mills.ROOM, "x "), 2, 13);
        Mills.firstGives("len(" + "x".repeat(200) + ")", "200");
        Mills.firstFails("len(" + "x".repeat(201) + ")", Mills.ROOM, "");
        Mills.firstGives("len(" + "x".repeat(100) + ",len(" + "y".repeat(100) + "))", "100");
        Mills.firstFails("len(" + "x".repeat(100) + ",len(" + "y".repeat(101) + "))", Mills.ROOM, "");
        Mills.firstGives("len(  \n" + "x".repeat(199) + "`,')", "200");
        Mills.firstGives("len(len(" + "x".repeat(150) + ")len(" + "y".repeat(150) + "))", "6");
    }

    private static void roomComesBack() {
        TwoMills mills = Mills.typed("len(" + "x".repeat(201) + ")");
        Mills.due("first() fails", -1, Mills.first(mills));
        mills.clear();
        Mills.type(mills, "`" + "y".repeat(200) + "'`" + "y".repeat(180) + "'len(ab)");
        Mills.due("first()", 381, Mills.first(mills));
        mills.clear();
        Mills.type(mills, "define(a,`" + "1".repeat(40) + "')" + "a ".repeat(12));
        Mills.due("first() fails", -1, Mills.first(mills));
        Mills.due("first() fails likewise", -1, Mills.first(mills));
        Mills.states(mills, 6, 400);
        mills.clear();
        Mills.type(mills, "len(ab)");
        Mills.due("first()", 1, Mills.first(mills));
    }

    private static void definitionsAreLimited() {
        StringBuilder ten = new StringBuilder();
        for (int k = 0; k < 10; k++) {
            ten.append("define(a").append(k).append(",").append(k).append(")");
        }
        Mills.states(Mills.firstGives(ten + "a9", "9"), 4, 10);
        Mills.states(Mills.firstGives(ten + "define(`a3',x)a3", "x"), 4, 10);
        Mills.states(Mills.firstGives(ten + "popdef(`a3')pushdef(`a4',x)a3`'a4", "a3x"), 4, 10);
        Mills.states(Mills.firstFails(ten + "x`'define(b,1)", Mills.ROOM, "x"), 4, 10);
        Mills.states(Mills.firstFails(ten + "x`'pushdef(`a1',1)", Mills.ROOM, "x"), 4, 10);
        Mills.states(Mills.firstGives(ten + "define(1,1)pushdef(,1)x", "x"), 4, 10);
        Mills.states(Mills.firstGives("define(a," + "x".repeat(40) + ")a", "x".repeat(40)), 4, 1);
        Mills.states(Mills.firstFails("-define(a," + "x".repeat(41) + ")a", Mills.ROOM, "-"), 4, 0);
        Mills.states(Mills.firstGives("-define(1," + "x".repeat(41) + ")a", "-a"), 4, 0);
        gonesAreNoDefinitions();
    }

    private static void gonesAreNoDefinitions() {
        // Five definitions go while they are collected, and ten others find room.
        StringBuilder text = new StringBuilder();
        for (int k = 0; k < 5; k++) {
            text.append("pushdef(`a',`").append(k).append("$1')a(popdef(`a')");
        }
        for (char c = 'b'; c < 'l'; c++) {
            text.append("define(").append(c).append(",x)");
        }
        Mills.states(Mills.firstGives(text + "b)))))", "01234x"), 4, 10);
        String again = "pushdef(`a',-)a()popdef(`a')";
        Mills.states(Mills.firstGives(again.repeat(14) + "a", "-".repeat(14) + "a"), 4, 0);
    }

    private static void eachRunBeginsAnew() {
        TwoMills mills = Mills.typed("define(a,b)a");
        Mills.due("first()", 1, Mills.first(mills));
        Mills.due("first() again", 1, Mills.first(mills));
        Mills.states(mills, 4, 1);
        mills.clear();
        Mills.type(mills, "a`");
        Mills.due("first() fails", -1, Mills.first(mills));
        Mills.due("the old definition and output are gone", "a", Mills.output(mills));
        Mills.states(mills, 4, 0);
        Mills.states(mills, 2, 2);
        mills.clear();
        Mills.type(mills, "len(len(");
        Mills.due("first() fails", -1, Mills.first(mills));
        mills.clear();
        Mills.type(mills, "a)");
        Mills.due("nothing is collected any more", 2, Mills.first(mills));
        Mills.states(mills, 0, 0);
        roomComesBack();
    }
}
