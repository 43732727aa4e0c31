/** Promise 5, sentence by sentence: the edges of expressions. */
public final class SecondValueEdgesTest {
    private static final String LEAST = "(-9223372036854775807-1)";

    public static void main(String[] args) {
        definedAsksForAName();
        withoutSuchAWItIsAWord();
        noneIsLookedForInWhatComes();
        theRowIsExpanded();
        wordsThatAreLeftAre0();
        numbersHaveDigitsAlone();
        numbersAreNotTooGreat();
        bracketsAndSignsAhead();
        signsBindAsSaid();
        eachTwoSignsBindAsSaid();
        fromTheLeft();
        shiftsTakeSixBits();
        longsWrap();
        roundedTowards0();
        comparisonsGive1Or0();
        whatIsNoValue();
        dividedBy0();
        settledByTheFirstValue();
        settledOnesHaveToBeValuesToo();
        eachExpressionBeginsAnew();
        Mills.finish();
    }

    private static void is(long value, String expression) {
        is("", value, expression);
    }

    /** The value is told by two questions, since a line only tells 0 from the rest. */
    private static void is(String ahead, long value, String expression) {
        String due = value == Long.MIN_VALUE ? LEAST : String.valueOf(value);
        Mills.secondGives(ahead + "#if (" + expression + ")==" + due + "\nyes\n#else\nno\n#endif", "yes\n");
        Mills.secondGives(ahead + "#if " + expression + "\nyes\n#else\nno\n#endif", value != 0 ? "yes\n" : "no\n");
    }

    private static void isNone(String expression) {
        isNone("", expression);
    }

    private static void isNone(String ahead, String expression) {
        int line = (int) ahead.chars().filter(c -> c == '\n').count();
        Mills.secondFails(ahead + "#if " + expression + "\nyes\n#endif\n", Mills.VALUE, line, "");
    }

    private static void definedAsksForAName() {
        Mills.sentence("first each defined W and defined ( W ) of the line becomes 1 or 0");
        String define = "#define a\n#define f(x) 5\n";
        is(define, 1, "defined a");
        is(define, 1, "defined(a)");
        is(define, 1, "defined ( f )");
        is(define, 0, "defined b");
        is(define, 0, "defined(b)");
        is(define, 0, "defined defined");
        is(define, 0, "defined(defined)");
        is(define, 12, "defined a*8+defined(f)*4+defined b*2");
        is("#define a\n#undef a\n", 0, "defined a");
        is("#define a\n#define g(x) x\n", 1, "g(defined a)");
        is("#define a\n#define g(x) x\n", 1, "g(defined(a))");
        Mills.states(Mills.secondGives("#define a 1\n#if defined a\n#endif", ""), 3, 0);
    }

    private static void withoutSuchAWItIsAWord() {
        Mills.sentence("(without such a W, or with a bracket missing, it is a word like others");
        is(0, "defined");
        is(1, "defined == 0");
        is(1, "!defined");
        is(5, "5 + defined");
        is("#define defined 3\n", 3, "defined");
        is("#define defined 3\n", 1, "defined defined");
        is("#define defined 3\n", 4, "defined+1");
        is("#define defined(x) 7\n", 7, "defined(1)");
        is("#define defined(x) 7\n", 7, "defined(a b)");
        is("#define defined(x) 7\n", 7, "defined()");
        is("#define defined(x) 7\n", 0, "defined(a)");
        for (String wrong : new String[] {"defined(a", "defined a)", "defined(", "defined()", "defined 1", "defined(1)", "defined((a))", "defined \"a\"", "defined(a b)", "defined)a("}) {
            isNone("#define a\n", wrong);
        }
    }

    private static void noneIsLookedForInWhatComes() {
        Mills.sentence("none is looked for in what comes by expanding");
        isNone("#define a 1\n#define g defined a\n", "g");
        isNone("#define a 1\n#define g defined\n", "g a");
        is("#define a 1\n#define g defined\n", 0, "g");
        isNone("#define a 1\n#define g(x) defined x\n", "g(a)");
        isNone("#define a 1\n#define g (a)\n", "defined g g");
        is("#define a 1\n#define g(x) defined+x\n", 1, "g(a)");
    }

    private static void theRowIsExpanded() {
        Mills.sentence("the row is expanded");
        is("#define a 2+3\n", 8, "a*2");
        is("#define f(x) x*x\n", 9, "f(3)");
        is("#define f(x) x*x\n", 5, "f(2+1)");
        is("#define e\n", 3, "e 1 e + e 2 e");
        Mills.secondFails("#define f(x) x\n#if f(", Mills.CALL, 1, "");
        Mills.secondFails("#define j + ## x\n#if j", Mills.JOIN, 1, "");
        Mills.secondFails("#define f(x) x\n#if f(1,1)", Mills.CALL, 1, "");
    }

    private static void wordsThatAreLeftAre0() {
        Mills.sentence("words that are left are 0");
        is(0, "x");
        is(0, "_");
        is(1, "x==y");
        is("#define f(x) 5\n", 0, "f");
        is("#define f(x) 5\n", 1, "f+1");
        is("#define a a\n", 0, "a");
        is("#define a a+1\n", 1, "a");
        is(0, "if");
    }

    private static void numbersHaveDigitsAlone() {
        Mills.sentence("a NUMBER of digits alone");
        is(0, "0");
        is(9, "9");
        is(9, "09");
        is(100, "00100");
        for (String wrong : new String[] {"1a", "1_", "0x1", "1L", "9z9", "1e5", "1.5", "1."}) {
            isNone(wrong);
        }
        is("#define j(x,y) x##y\n", 12, "j(1,2)");
        isNone("#define j(x,y) x##y\n", "j(1,a)");
    }

    private static void numbersAreNotTooGreat() {
        Mills.sentence("up to 2 ^ 63 - 1");
        is(Long.MAX_VALUE - 1, "9223372036854775806");
        is(Long.MAX_VALUE, "9223372036854775807");
        is(Long.MAX_VALUE, "00009223372036854775807");
        is(-Long.MAX_VALUE, "-9223372036854775807");
        Mills.sentence("(also for a NUMBER that is too great");
        for (String wrong : new String[] {
            "9223372036854775808", "-9223372036854775808", "9223372036854775810", "9223372036854775817", "9300000000000000000",
            "10000000000000000000", "18446744073709551616", "18446744073709551617", "99999999999999999999999999999999",
        }) {
            isNone(wrong);
        }
    }

    private static void bracketsAndSignsAhead() {
        Mills.sentence("a value in brackets; - ! ~ ahead of one");
        is(5, "(5)");
        is(5, "((((5))))");
        is(-5, "-5");
        is(5, "--5");
        is(-5, "-(5)");
        is(1, "!0");
        is(0, "!5");
        is(0, "!-1");
        is(-1, "~0");
        is(0, "~-1");
        is(6, "-~5");
        is(4, "~-5");
        is(1, "!!5");
        is(-1, "-!~-1");
        is(0, "(x)");
        is(1, "(".repeat(47) + "1" + ")".repeat(47));
        is(1, "~".repeat(94) + "1");
        is(Long.MIN_VALUE, "~9223372036854775807");
    }

    private static void signsBindAsSaid() {
        Mills.sentence("* / % bind strongest, then + -, << >> (by the lowest 6 bits), < > <= >=, == !=, &, ^, |, &&, ||");
        is(7, "1+2*3");
        is(5, "1*2+3");
        is(-1, "~1+1");
        is(-2, "-1*2");
        is(3, "9/4+1");
        is(2, "1+9%4");
        is(8, "1<<2+1");
        is(9, "(1<<3)+1");
        is(6, "1+2<<1");
        is(1, "1<<1>1");
        is(0, "1>1<<1");
        is(1, "2>1==1");
        is(1, "1==2>1");
        is(0, "2==2&2");
        is(0, "2&2==2");
        is(1, "1^1&0");
        is(3, "1|2^0");
        is(1, "1|1^1");
        is(1, "1^1|1");
        is(1, "2&&1|4");
        is(1, "1|4&&2");
        is(1, "1||0&&0");
        is(1, "0&&0||1");
        is(0, "0||1&&0");
    }

    /** Two signs between three values, told by the order of strength that the document gives. */
    private static void eachTwoSignsBindAsSaid() {
        Mills.sentence("* / % bind strongest, then + -, << >> (by the lowest 6 bits), < > <= >=, == !=, &, ^, |, &&, ||");
        String[][] strengths = {
            {"*", "/", "%"}, {"+", "-"}, {"<<", ">>"}, {"<", ">", "<=", ">="}, {"==", "!="}, {"&"}, {"^"}, {"|"}, {"&&"}, {"||"},
        };
        int[][] values = {{7, 2, 3}, {2, 1, 2}, {1, 5, 1}, {6, 6, 1}, {3, 4, 5}, {12, 10, 2}};
        for (int one = 0; one < strengths.length; one++) {
            for (int other = 0; other < strengths.length; other++) {
                for (String a : strengths[one]) {
                    for (String b : strengths[other]) {
                        for (int[] v : values) {
                            long due = one <= other ? of(of(v[0], a, v[1]), b, v[2]) : of(v[0], a, of(v[1], b, v[2]));
                            is(due, v[0] + a + v[1] + b + v[2]);
                        }
                    }
                }
            }
        }
    }

    private static long of(long one, String sign, long other) {
        switch (sign) {
            case "*": return one * other;
            case "/": return one / other;
            case "%": return one % other;
            case "+": return one + other;
            case "-": return one - other;
            case "<<": return one << other;
            case ">>": return one >> other;
            case "<": return one < other ? 1 : 0;
            case ">": return one > other ? 1 : 0;
            case "<=": return one <= other ? 1 : 0;
            case ">=": return one >= other ? 1 : 0;
            case "==": return one == other ? 1 : 0;
            case "!=": return one != other ? 1 : 0;
            case "&": return one & other;
            case "^": return one ^ other;
            case "|": return one | other;
            case "&&": return one != 0 && other != 0 ? 1 : 0;
            default: return one != 0 || other != 0 ? 1 : 0;
        }
    }

    private static void fromTheLeft() {
        Mills.sentence("from the left");
        is(-4, "1-2-3");
        is(2, "8/2/2");
        is(16, "8/2*4");
        is(3, "7*5%4");
        is(6, "2*7%8");
        is(16, "1<<2<<2");
        is(4, "64>>3>>1");
        is(0, "3>2>1");
        is(1, "1<3<2");
        is(0, "2==2==2");
        is(1, "3!=3==0");
    }

    private static void shiftsTakeSixBits() {
        Mills.sentence("<< >> (by the lowest 6 bits)");
        is(1, "1<<0");
        is(Long.MIN_VALUE, "1<<63");
        is(1, "1<<64");
        is(2, "1<<65");
        is(Long.MIN_VALUE, "1<<-1");
        is(1, "1<<-64");
        is(1, "1<<4294967296");
        is(Long.MIN_VALUE, "1<<9223372036854775807");
        is(5, "5>>0");
        is(2, "5>>1");
        is(0, "5>>63");
        is(5, "5>>64");
        is(-1, "-5>>63");
        is(-3, "-5>>1");
        is(-1, LEAST + ">>-1");
    }

    private static void longsWrap() {
        Mills.sentence("longs that wrap");
        is(Long.MIN_VALUE, "9223372036854775807+1");
        is(Long.MAX_VALUE, LEAST + "-1");
        is(-2, "9223372036854775807*2");
        is(0, "4294967296*4294967296");
        is(Long.MIN_VALUE, "-" + LEAST);
        is(Long.MIN_VALUE, LEAST + "/-1");
        is(0, LEAST + "%-1");
        is(Long.MIN_VALUE, LEAST + "*-1");
        is(1, "9223372036854775807+1<0");
    }

    private static void roundedTowards0() {
        Mills.sentence("rounded towards 0");
        is(3, "7/2");
        is(-3, "-7/2");
        is(-3, "7/-2");
        is(3, "-7/-2");
        is(0, "1/2");
        is(0, "-1/2");
        is(1, "7%2");
        is(-1, "-7%2");
        is(1, "7%-2");
        is(-1, "-7%-2");
    }

    private static void comparisonsGive1Or0() {
        Mills.sentence("what compares, !, && and || give 1 or 0");
        is(1, "2<3");
        is(0, "3<3");
        is(1, "3>2");
        is(0, "3>3");
        is(1, "3<=3");
        is(0, "4<=3");
        is(1, "3>=3");
        is(0, "2>=3");
        is(1, "3==3");
        is(0, "3==4");
        is(1, "3!=4");
        is(0, "3!=3");
        is(1, "-1<0");
        is(1, LEAST + "<9223372036854775807");
        is(1, "5&&7");
        is(0, "5&&0");
        is(0, "0&&5");
        is(1, "5||0");
        is(1, "0||5");
        is(0, "0||0");
        is(1, "-1&&" + LEAST);
        is(0, "!7");
        is(1, "!0");
    }

    private static void whatIsNoValue() {
        Mills.sentence("Otherwise (also for a NUMBER that is too great, a STRING, no token at all)");
        isNone("");
        isNone("#define e\n", "e");
        isNone("#define e\n", "e e");
        isNone("\"\"");
        isNone("\"1\"");
        isNone("1+\"1\"");
        isNone("(\"1\")");
        for (String wrong : new String[] {
            "(", ")", "()", "(1", "1)", "(1))", "((1)", ")(", "(1)(1)", "1 1", "1 x", "x x", "1(1)", "(1)1", "+1", "*1", "1+", "1-", "1*", "1/", "1%", "1<<",
            "1>", "1==", "1&", "1^", "1|", "1&&", "1||", "-", "!", "~", "1!", "1~", "1!1", "1~1", "1+*1", "1++1", "=", "1=1", "1,1", "1?1", "1:1",
            "1)+1", "1)+(1", "1)(1", "1))((1", "(1)+1)", "1;", "#", "##", "1##1", "1#1", "@", "$", "'", "\"", "\\", ".", "[1]", "{1}", "(1+)", "(+)", "1 - - ", "< 1",
        }) {
            isNone(wrong);
        }
    }

    private static void dividedBy0() {
        Mills.sentence("and for / and % by 0");
        for (String wrong : new String[] {
            "1/0", "1%0", "0/0", "0%0", "1/x", "1/(1-1)", "1/!1", LEAST + "/0", "1/0*0", "0*(1/0)", "!(1/0)", "-(1%0)", "1/0==1/0", "(1/0)", "1%0+1",
            "0&1/0", "1|1/0", "1<<1/0", "2/(1/0)", "1/(0&&1)",
        }) {
            isNone(wrong);
        }
        is(0, "0/1");
        is(0, "0%1");
    }

    private static void settledByTheFirstValue() {
        Mills.sentence("but these where && or || is settled by its first value");
        is(0, "0&&1/0");
        is(0, "0&&1%0");
        is(1, "1||1/0");
        is(1, "7||1%0");
        is(0, "0&&(1/0+1)");
        is(0, "0&&!(1/0)");
        is(0, "0&&1/0&&1/0");
        is(1, "1||1/0||1/0");
        is(1, "0&&1/0||1");
        is(1, "1||1/0&&1/0");
        is(0, "0&&(1||1/0)");
        is(1, "1||(1&&1/0)");
        is(1, "(1||1/0)&&1");
        is(2, "(0&&1/0)+2");
        is(0, "(1||1/0)&&0");
        is(0, "0&&1/(0&&1/0)");
        for (String wrong : new String[] {
            "1&&1/0", "0||1/0", "1/0&&0", "1/0||1", "0&&1||1/0", "(0&&1)||1%0", "0||1&&0/0", "(1||0)&&1/0",
            "1&&0||1/0", "1/(0&&1/0)", "(1||1/0)&&1/0", "0&&0||0/0",
        }) {
            isNone(wrong);
        }
    }

    private static void eachExpressionBeginsAnew() {
        Mills.sentence("Then values");
        TwoMills mills = new TwoMills();
        for (String wrong : new String[] {"(", "1+", "((1", "1 1", "-", "1/0", "0&&1/0&&"}) {
            for (String text : new String[] {"#if " + wrong, "#if 2-1\n#if 3\nx\n#endif\n#endif"}) {
                mills.clear();
                Mills.type(mills, text);
                Mills.first(mills);
                Mills.due("second() of " + text, text.length() > 20 ? 2 : -1, Mills.second(mills));
            }
        }
    }

    private static void settledOnesHaveToBeValuesToo() {
        Mills.sentence("Otherwise (also for a NUMBER that is too great, a STRING, no token at all), and for / and % by 0, but these where && or || is settled by its first value: VALUE.");
        for (String wrong : new String[] {
            "0&&", "1||", "0&&(", "0&&)", "1||\"s\"", "0&&9223372036854775808", "1||1a", "0&&+1", "0&&1 1", "1||(1/0", "0&&()", "1||1=1",
        }) {
            isNone(wrong);
        }
    }
}
