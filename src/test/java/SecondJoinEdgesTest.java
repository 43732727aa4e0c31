/** Promise 5, sentence by sentence: the edges of the substitution, of "#" and of "##". */
public final class SecondJoinEdgesTest {
    private static final String JOIN = "#define j(x,y) x##y\n";

    public static void main(String[] args) {
        otherSignsStay();
        stringsAreMade();
        parametersNextToJoinersAreNotExpanded();
        joinersJoin();
        joinedOnceIsJoinedNoMore();
        argumentsDoNotJoin();
        emptyArgumentsCountAsTokens();
        theRowsEndCountsAsAToken();
        joinedTokensAreOne();
        stringsAreNeverJoined();
        joinedTokensAreGoneOver();
        whatIsMadeDisturbsNothing();
        joinedTokensHideWhatBothHide();
        emptyOnesHideNothing();
        bodiesWithoutParametersJoinToo();
        Mills.finish();
    }

    private static void gives(int replacements, String text, String result) {
        Mills.states(Mills.secondGives(text, result), 3, replacements);
    }

    private static void failsToJoin(String text, int line) {
        Mills.states(Mills.secondFails(text, Mills.JOIN, line, ""), 3, 1);
    }

    private static void otherSignsStay() {
        Mills.sentence("a \"#\" and a parameter behind it (any other # stays)");
        gives(1, "#define f(x) #\nf(1)", "#\n");
        gives(1, "#define f(x) # y\nf(1)", "# y\n");
        gives(1, "#define f(x) #xx #1 #+ #\"x\"\nf(1)", "# xx # 1 # + # \"x\"\n");
        gives(1, "#define f(x) # # x\nf(1)", "# \"1\"\n");
        gives(1, "#define f(x) x #\nf(1)", "1 #\n");
        gives(1, "#define f() #x\nf()", "# x\n");
        gives(1, "#define a #x\na", "# x\n");
        gives(1, "#define f(x) x 1\nf(#)", "# 1\n");
        gives(1, "#define f(x,y) x y\nf(#,y)", "# y\n");
    }

    private static void stringsAreMade() {
        Mills.sentence("become one STRING: a \", the argument's tokens with a space between each two, a \"");
        gives(1, "#define f(x) #x\nf()", "\"\"\n");
        gives(1, "#define f(x) #x\nf(a)", "\"a\"\n");
        gives(1, "#define f(x) # x\nf( a+b )", "\"a + b\"\n");
        gives(1, "#define f(x) #x\nf(\"a  b\")", "\"\"a  b\"\"\n");
        gives(1, "#define f(x) #x\nf(\")", "\"\"\"\n");
        gives(1, "#define f(x) #x\nf((,))", "\"( , )\"\n");
        gives(1, "#define f(x,y) #x#y\nf(1,)", "\"1\" \"\"\n");
        gives(1, "#define a 1\n#define f(x) #x\nf(a)", "\"a\"\n");
        gives(1, "#define f(x) #x\nf(f(1))", "\"f ( 1 )\"\n");
        Mills.secondFails("#define f(x) #x\n#if f(1)\n", Mills.VALUE, 1, "");
        gives(2, "#define f(x) #x\n#define g(x) x\ng(f(a))", "\"a\"\n");
    }

    private static void parametersNextToJoinersAreNotExpanded() {
        Mills.sentence("A parameter with a ## next to it becomes the argument's tokens; any other one these EXPANDED by themselves");
        gives(1, JOIN + "#define a 1\nj(a,b)", "ab\n");
        gives(1, JOIN + "#define a 1\nj(b,a)", "ba\n");
        gives(2, "#define a 1\n#define f(x) x ## _ x\nf(a)", "a_ 1\n");
        gives(2, "#define a 1\n#define f(x) x _ ## x\nf(a)", "1 _a\n");
        gives(3, "#define a 1\n#define f(x) x x _ ## _\nf(a)", "1 1 __\n");
        gives(2, "#define a 1\n#define f(x) x ## 2\nf(a a)", "1 a2\n");
        gives(2, "#define a 1\n#define f(x) 2 ## _ x\nf(a)", "2_ 1\n");
    }

    private static void joinersJoin() {
        Mills.sentence("Then, from the left, each ## of the body (in the row that came of it) JOINS the token ahead of it and the one behind: one token, of both texts");
        gives(1, JOIN + "j(a,b)", "ab\n");
        gives(1, JOIN + "j(1 2,3 4)", "1 23 4\n");
        gives(1, "#define f(x) x ## x ## x\nf(a)", "aaa\n");
        gives(1, "#define f(x) x ## 1 x\nf(a b)", "a b1 a b\n");
        gives(1, "#define f(x,y) x##y x##y\nf(a,b)", "ab ab\n");
        gives(1, "#define a 1 ## 2 ## 3 4 ## 5\na", "123 45\n");
    }

    private static void joinedOnceIsJoinedNoMore() {
        Mills.sentence("(a ## that was joined joins no more)");
        gives(1, "#define a # ## #\na", "##\n");
        gives(1, "#define f(x) x ## #\nf(#)", "##\n");
        gives(1, "#define a b # ## # c\na", "b ## c\n");
        gives(1, "#define a ## ##\na", "##\n");
        gives(1, "#define a ## ## ##\na", "##\n");
        gives(1, "#define f(x) x ## ##\nf()", "##\n");
        failsToJoin("#define a b ## ## c\na", 1);
        failsToJoin("#define a # ## # ## #\na", 1);
    }

    private static void argumentsDoNotJoin() {
        Mills.sentence("each ## of the body");
        gives(1, "#define f(x) x\nf(a ## b)", "a ## b\n");
        gives(1, "#define f(x) x ## 1\nf(a ## b)", "a ## b1\n");
        gives(1, "#define f(x,y) x ## y\nf(##,)", "##\n");
        gives(0, "a ## b", "a ## b\n");
        gives(2, "#define f(x) x\n#define h # ## #\nf(a h b)", "a ## b\n");
        gives(3, "#define f(x) g(x)\n#define g(x) x\n#define h # ## #\nf(a h b)", "a ## b\n");
    }

    private static void emptyArgumentsCountAsTokens() {
        Mills.sentence("An empty argument next to ## counts as a token without characters there");
        gives(1, JOIN + "j(a,)", "a\n");
        gives(1, JOIN + "j(,a)", "a\n");
        gives(1, JOIN + "-j(,)-", "- -\n");
        gives(1, "#define f(x) a x ## b\nf()", "a b\n");
        gives(1, "#define f(x) a ## x b\nf()", "a b\n");
        gives(1, "#define f(x) a ## x ## b\nf()", "ab\n");
        gives(1, "#define f(x) a x ## x b\nf()", "a b\n");
        gives(1, "#define f(x,y) x ## y ## x\nf(,b)", "b\n");
        gives(1, "#define f(x,y) x ## y ## x\nf(a,)", "aa\n");
        gives(1, "#define f(x) a x b\nf()", "a b\n");
        gives(1, "#define f(x) a x ## x ## x ## x b\nf()", "a b\n");
        Mills.sentence("in the end these go");
        gives(1, "#define f(x) x ## x\nf()", "");
    }

    private static void theRowsEndCountsAsAToken() {
        Mills.sentence("which hides nothing; so does the row's end; in the end these go");
        gives(1, "#define a ## b\na", "b\n");
        gives(1, "#define a b ##\na", "b\n");
        gives(1, "#define a ##\n-a-", "- -\n");
        gives(1, "#define f(x) ## x\nf(1 2)", "1 2\n");
        gives(1, "#define f(x) x ##\nf(1 2)", "1 2\n");
        gives(1, "#define f(x) x ##\n-f()-", "- -\n");
        gives(1, "#define f(x) ## x ##\n-f()-", "- -\n");
        // The row's end is the substitution's, so what stands round the word in its line is not joined.
        gives(1, "#define a ## b\nx a y", "x b y\n");
        gives(1, "#define f(x) y ##\nf(1) 2", "y 2\n");
        gives(2, "#define e\n#define f(x) x y ## _\nf(e)", "y_\n");
    }

    private static void joinedTokensAreOne() {
        Mills.sentence("A joined token has to be just one WORD, NUMBER or SIGN, or have no characters: otherwise JOIN");
        for (String fine : new String[] {"a,b", "a,1", "1,a", "1,2", "_,_", "#,#", "=,=", "!,=", "<,=", ">,=", "&,&", "|,|", "<,<", ">,>", "+,", ",+", ",##"}) {
            gives(1, JOIN + "j(" + fine + ")", fine.replace(",", "") + "\n");
        }
        for (String wrong : new String[] {
            "a,+", "+,a", "1,.", ".,1", "+,+", "-,>", "=,!", "=,<", "&,|", "#,=", "<<,=", "<,<=", "##,#", "#,##", "==,=", "a,(a)", "/,/", "1,-",
        }) {
            failsToJoin(JOIN + "j(" + wrong + ")", 1);
        }
    }

    private static void stringsAreNeverJoined() {
        Mills.sentence("otherwise JOIN (also of a STRING and nothing");
        for (String wrong : new String[] {"\"s\",", ",\"s\"", "\"s\",a", "a,\"s\"", "\"s\",\"s\"", "\"\",", ",\"\""}) {
            failsToJoin(JOIN + "j(" + wrong + ")", 1);
        }
        failsToJoin("#define f(x) #x ##\nf()", 1);
        failsToJoin("#define f(x) ## #x\nf()", 1);
        failsToJoin("#define f(x) #x ## x\nf()", 1);
        failsToJoin("#define f(x) ###x\nf()", 1);
        failsToJoin("#define f(x) x ## x\nf(\")", 1);
        gives(1, "#define f(x) x ##\nf(\")", "\"\n");
        gives(1, "#define f(x) #x x ## x\nf()", "\"\"\n");
    }

    private static void joinedTokensAreGoneOver() {
        Mills.sentence("What it is replaced by comes ahead of the rest, and is gone over next.");
        gives(2, JOIN + "#define ab 5\nj(a,b)", "5\n");
        gives(2, JOIN + "#define ab(x) x\nj(a,b)(5)", "5\n");
        gives(2, "#define g(x) <x>\n#define f(x,y) x ## y(1)\nf(g,)", "< 1 >\n");
        gives(2, JOIN + "#define f(x) <x>\nj(f,)(1)", "< 1 >\n");
        Mills.secondGives(JOIN + "#if 1 j(<,<) j(1,0) == 1024\nyes\n#endif", "yes\n");
    }

    private static void whatIsMadeDisturbsNothing() {
        Mills.sentence("one token, of both texts");
        Mills.secondGives("#define a\n" + JOIN + "#if defined a == 1 && j(0,0) == 0 && defined b == 0\nyes\n#endif", "yes\n");
        Mills.secondGives("#define a\n" + JOIN + "#if j(1,1) == 11 && defined b == 0 && defined a == 1\nyes\n#endif", "yes\n");
        String start = JOIN + "j(ab,cd)\nj(ef,gh)";
        Mills.secondGives(start + " ".repeat(396 - start.length()) + "wxyz", "abcd\nefgh wxyz\n");
        gives(2, JOIN + "j(ab,cd) j(ef,gh)", "abcd efgh\n");
    }

    private static void joinedTokensHideWhatBothHide() {
        Mills.sentence("hiding what both hide");
        gives(2, JOIN + "#define ab j(a,b)\nab", "ab\n");
        gives(2, JOIN + "#define ab j(a,b\nab)", "ab\n");
        gives(3, JOIN + "#define ab j(a,\nab b)", "j ( a ,\n");
        gives(4, JOIN + "#define ab b\n#define w(x) j(a,x)\nw(ab)", "b\n");
        gives(4, JOIN + "#define ab a\n#define w(x) j(x,b)\nw(ab)", "a\n");
    }

    private static void emptyOnesHideNothing() {
        Mills.sentence("counts as a token without characters there, which hides nothing; so does the row's end");
        gives(3, JOIN + "#define a j(a,\na)", "j ( a ,\n");
        gives(3, JOIN + "#define a j(,a\na)", "j ( , a\n");
        gives(3, "#define k(x) x ##\n#define a k(a\na)", "k ( a\n");
        gives(3, "#define k(x) ## x\n#define a k(a\na)", "k ( a\n");
        gives(2, "#define k(x) x\n#define a k(a\na)", "a\n");
        gives(2, JOIN + "#define a j(a,)\na", "a\n");
    }

    private static void bodiesWithoutParametersJoinToo() {
        Mills.sentence("(So it is in bodies without parameters, too.)");
        gives(1, "#define a b ## c\na", "bc\n");
        gives(1, "#define f() b ## c\nf()", "bc\n");
        failsToJoin("#define a + ## c\na", 1);
        failsToJoin("#define f() + ## c\nf()", 1);
        failsToJoin("#define a \"s\" ##\na", 1);
        gives(2, "#define bc 5\n#define a b ## c\na", "5\n");
        gives(1, "#define aa a ## a\naa", "aa\n");
    }
}
