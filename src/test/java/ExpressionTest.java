/** Promise 5: expressions. */
public final class ExpressionTest {
    public static void main(String[] args) {
        numbersAreValues();
        signsStandAheadOfValues();
        signsStandBetweenValues();
        strongSignsBindFirst();
        signsBindFromTheLeft();
        longsWrap();
        settledValuesAreNotDivided();
        namesAreAskedFor();
        rowsAreExpanded();
        wrongExpressionsAreRefused();
        longExpressions();
        Mills.finish();
    }

    private static void is(long value, String expression) {
        is("", value, expression);
    }

    /** The value is told by two questions, since a line only tells 0 from the rest. */
    private static void is(String ahead, long value, String expression) {
        String due = value == Long.MIN_VALUE ? "(-9223372036854775807-1)" : String.valueOf(value);
        Mills.secondGives(ahead + "#if (" + expression + ")==" + due + "\nyes\n#else\nno\n#endif", "yes\n");
        Mills.secondGives(ahead + "#if " + expression + "\nyes\n#else\nno\n#endif", value != 0 ? "yes\n" : "no\n");
    }

    private static void isRefused(String expression) {
        Mills.secondFails("a\n#if " + expression + "\nyes\n#endif\n", Mills.VALUE, 1, "a\n");
    }

    private static void numbersAreValues() {
        is(0, "0");
        is(7, "7");
        is(8, "010-2");
        is(0, "word");
        is(0, "000");
        is(Long.MAX_VALUE, "9223372036854775807");
        is(1, "0000000000000000000000000000001");
        is(5, "((5))");
        isRefused("9223372036854775808");
        isRefused("-9223372036854775808");
        isRefused("99999999999999999999999999");
        isRefused("18446744073709551617");
        isRefused("1a");
        isRefused("0x1");
        isRefused("1_");
    }

    private static void signsStandAheadOfValues() {
        is(-5, "-5");
        is(5, "- -5");
        is(5, "--5");
        is(0, "!5");
        is(1, "!0");
        is(1, "!!5");
        is(-1, "~0");
        is(4, "-~3");
        is(1, "!-0");
        is(-6, "-2*3");
        is(0, "!2*3");
        is(-3, "~2*1");
        is(0, "!1==1");
        is(3, "5+-2");
        is(Long.MIN_VALUE, "~9223372036854775807");
    }

    private static void signsStandBetweenValues() {
        is(42, "6*7");
        is(3, "7/2");
        is(-3, "-7/2");
        is(-3, "7/-2");
        is(1, "7%2");
        is(-1, "-7%2");
        is(1, "7%-2");
        is(5, "2+3");
        is(-1, "2-3");
        is(40, "5<<3");
        is(-2, "-7>>2");
        is(10, "5<<65");
        is(2, "5>>65");
        is(Long.MIN_VALUE, "1<<-1");
        is(1, "2<3");
        is(0, "3<3");
        is(1, "3>2");
        is(0, "3>3");
        is(1, "3<=3");
        is(0, "4<=3");
        is(1, "3>=3");
        is(0, "2>=3");
        is(1, "-1<0");
        is(1, "4==4");
        is(0, "4==5");
        is(1, "4!=5");
        is(0, "4!=4");
        is(4, "6&12");
        is(10, "6^12");
        is(14, "6|12");
        is(1, "6&&12");
        is(0, "6&&0");
        is(0, "0&&6");
        is(1, "6||0");
        is(1, "0||6");
        is(0, "0||0");
    }

    private static void strongSignsBindFirst() {
        is(14, "2+3*4");
        is(20, "(2+3)*4");
        is(10, "2*3+4");
        is(32, "1<<2+3");
        is(1, "1<<3>7");
        is(1, "1<2==1");
        is(0, "1==2<1==1&0");
        is(1, "3&1==1");
        is(6, "2^3&4|6");
        is(7, "1|2^4");
        is(3, "1|3^1&2^1");
        is(1, "2&&1|0");
        is(1, "1||0&&0");
        is(0, "(1||0)&&0");
        is(1, "0&&0||1");
        is(1, "1==1&&2==2");
        is(-1, "2-6/2");
        is(2, "7-10/2");
    }

    private static void signsBindFromTheLeft() {
        is(-4, "1-2-3");
        is(2, "20/5/2");
        is(8, "20/5*2");
        is(4, "2*7%10");
        is(16, "1<<2<<2");
        is(2, "64>>4>>1");
        is(1, "3>2>0");
        is(0, "3>2>1");
        is(1, "2==2==1");
        is(0, "2==2==2");
        is(1, "5!=5==0");
    }

    private static void longsWrap() {
        is(Long.MIN_VALUE, "9223372036854775807+1");
        is(Long.MAX_VALUE, "-9223372036854775807-2");
        is(-2, "9223372036854775807*2");
        is(Long.MIN_VALUE, "(-9223372036854775807-1)/-1");
        is(0, "(-9223372036854775807-1)%-1");
        is(Long.MIN_VALUE, "-(-9223372036854775807-1)");
    }

    private static void settledValuesAreNotDivided() {
        isRefused("1/0");
        isRefused("1%0");
        isRefused("1/(2-2)");
        isRefused("0/x");
        is(0, "0&&1/0");
        is(1, "1||1/0");
        is(1, "1||(0||1%0)");
        is(0, "0&&1/0&&1/0");
        is(1, "0&&1/0||1");
        is(1, "1||1/0&&1/0");
        is(0, "0&&(1/0+2*3)");
        is(0, "0&&-(1/0)");
        isRefused("1&&1/0");
        isRefused("0||1/0");
        isRefused("1/0&&0");
        isRefused("1/0||1");
        isRefused("0&&1||1/0");
        isRefused("0*(1/0)");
        isRefused("!(1/0)");
        isRefused("0&1/0");
        isRefused("0&&1a");
        isRefused("0&&9223372036854775808");
        isRefused("1||\"s\"");
        isRefused("0&&");
        isRefused("1||(");
    }

    private static void namesAreAskedFor() {
        String define = "#define a 0\n#define f(x) 5\n";
        is(define, 1, "defined a");
        is(define, 1, "defined(a)");
        is(define, 1, "defined ( f )");
        is(define, 0, "defined b");
        is(define, 0, "defined(b)");
        is(define, 0, "!defined a");
        is(define, 2, "defined a+defined f");
        is(define, 0, "defined");
        is(define, 1, "defined==0");
        is(define, 0, "defined defined");
        is("#define defined 3\n", 3, "defined");
        is("#define defined 3\n", 1, "defined defined");
        is("#define g defined\n#define a 1\n", 0, "g");
        Mills.secondFails("#define g defined a\n#define a 1\n#if g\n", Mills.VALUE, 2, "");
        Mills.secondFails("#define a 1\n#if defined(a\n", Mills.VALUE, 1, "");
        Mills.secondFails("#define a 1\n#if defined()\n", Mills.VALUE, 1, "");
        Mills.secondFails("#define a 1\n#if defined 1\n", Mills.VALUE, 1, "");
        Mills.secondFails("#define a 1\n#if defined(1)\n", Mills.VALUE, 1, "");
        Mills.states(Mills.secondGives("#define a 1\n#if defined a\n#endif", ""), 3, 0);
    }

    private static void rowsAreExpanded() {
        is("#define a 2+3\n", 8, "a+a-2");
        is("#define a 2+3\n", 8, "a*2");
        is("#define f(x) x*x\n", 9, "f(3)");
        is("#define f(x) x*x\n", 0, "f");
        is("#define a a\n", 0, "a");
        is("#define j(x,y) x##y\n", 12, "j(1,2)");
        is("#define j(x,y) x##y\n", 4, "1 j(<,<) 2");
        Mills.states(Mills.secondGives("#define a b\n#define b 1\n#if a\nx\n#endif", "x\n"), 3, 2);
        Mills.secondFails("#define a\n#if a\n", Mills.VALUE, 1, "");
        Mills.secondFails("#define f(x) x\n#if f(1\n", Mills.CALL, 1, "");
        Mills.secondFails("#define f(x) #x\n#if f(1)\n", Mills.VALUE, 1, "");
        Mills.secondFails("#define a +##x\n#if a\n", Mills.JOIN, 1, "");
    }

    private static void wrongExpressionsAreRefused() {
        for (String wrong : new String[] {
            "", "(", ")", "()", "1)", "(1", "1 1", "1 x", "x 1", "+", "+1", "1+", "*1", "1*", "1++1", "1!2", "1~2", "1!", "(1)(2)",
            "1=1", "1===1", "=1", "\"s\"", "\"", "1,2", "1?2", "1 ##", "#", "1 # 2", "@", "1.0", "1==", "&&1", "1<", "1<<", "-", "!", "(1+)", "(1))",
        }) {
            isRefused(wrong);
        }
    }

    private static void longExpressions() {
        is(1, "(".repeat(40) + "1" + ")".repeat(40));
        is(1, "-".repeat(90) + "1");
        is(50, "1" + "+1".repeat(40) + "+(9)");
        isRefused("(".repeat(100));
        isRefused("-".repeat(100));
        Mills.secondFails("#if 1" + "+1".repeat(50), Mills.ROOM, 0, "");
        Mills.secondGives("#if 1" + "+1".repeat(49) + "\n1\n#endif", "1\n");
        // A defined W is one token when the row begins.
        Mills.secondGives("#if defined x" + "+1".repeat(49) + "\n1\n#endif", "1\n");
        Mills.secondGives("#if defined(x)" + "+1".repeat(49) + "\n1\n#endif", "1\n");
    }
}
