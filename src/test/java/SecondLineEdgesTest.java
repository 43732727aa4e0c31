/** Promise 5, sentence by sentence: the edges of tokens, of lines and of orders. */
public final class SecondLineEdgesTest {
    private static final String TWELVE = " 1 2 3 4 5 6 7 8 9 10 11 12";

    public static void main(String[] args) {
        thereMayBeNoOutput();
        eachRunBeginsWithNothing();
        tokensEndWhereTheTextEnds();
        wordsAndNumbersEnd();
        stringsEndInTheirLine();
        signsHaveOneOrTwo();
        linesAreNumbered();
        ordersBeginWithOneSign();
        bodiesMayBeEmpty();
        parametersFollowAtOnce();
        wrongParametersAreRefused();
        thereAreEightNames();
        bodiesHaveTwelveTokens();
        whatWWasGoes();
        undefTakesAName();
        wrongOrdersAreRefused();
        linesGoAheadOfOtherReasons();
        Mills.finish();
    }

    private static void names(TwoMills mills, int want) {
        Mills.states(mills, 5, want);
    }

    private static void thereMayBeNoOutput() {
        Mills.sentence("The OUTPUT there is (empty ahead of any first()) goes through the second mill");
        Mills.due("second() of a new object", 0, Mills.second(new TwoMills()));
        TwoMills mills = Mills.typed("#endif");
        Mills.due("second() ahead of first()", 0, Mills.second(mills));
        Mills.states(mills, 0, 0);
        Mills.due("first()", 6, Mills.first(mills));
        Mills.due("second()", -1, Mills.second(mills));
        TwoMills failed = Mills.typed("ab`");
        Mills.first(failed);
        Mills.due("second() of what was put", 3, Mills.second(failed));
    }

    private static void eachRunBeginsWithNothing() {
        Mills.sentence("THE SECOND MILL begins without names and with an empty RESULT");
        TwoMills mills = Mills.typed("#define a b\na\n#ifdef a");
        Mills.first(mills);
        Mills.due("second()", -1, Mills.second(mills));
        Mills.due("second() again", -1, Mills.second(mills));
        Mills.due("result", "b\n", Mills.result(mills));
        names(mills, 1);
        mills.clear();
        Mills.type(mills, "a");
        Mills.first(mills);
        Mills.due("second()", 2, Mills.second(mills));
        Mills.due("result", "a\n", Mills.result(mills));
        names(mills, 0);
        mills.clear();
        Mills.type(mills, "#x");
        Mills.first(mills);
        Mills.due("second() fails at once", -1, Mills.second(mills));
        Mills.states(mills, 7, 0);
        mills.clear();
        Mills.first(mills);
        Mills.due("second() of nothing", 0, Mills.second(mills));
        Mills.states(mills, 7, 0);
    }

    /** Whatever an earlier text had there. */
    private static void tokensEndWhereTheTextEnds() {
        Mills.sentence("THE SECOND MILL begins without names and with an empty RESULT, and takes that OUTPUT.");
        TwoMills mills = new TwoMills();
        String join = "#define j(x,y) x##y\n";
        String[] longer = {"xabc", "x<<", "x##", "x\"\"", "123", join + "j(#,#)", join + "j(a,b)", join + "j(<,=)"};
        for (String text : longer) {
            mills.clear();
            Mills.type(mills, text);
            Mills.first(mills);
            Mills.second(mills);
            String before = Mills.result(mills);
            String shorter = text.startsWith("#") ? text.substring(0, text.length() - 2) + ")" : text.substring(0, text.length() - 1);
            mills.clear();
            Mills.type(mills, shorter);
            Mills.first(mills);
            Mills.second(mills);
            String due = before.substring(0, before.length() - 2) + "\n";
            Mills.due("result of " + shorter + " behind " + text, due, Mills.result(mills));
        }
    }

    private static void wordsAndNumbersEnd() {
        Mills.sentence("A TOKEN is a WORD; a NUMBER: a digit, and all letters, digits and \"_\" that follow");
        Mills.secondGives("a", "a\n");
        Mills.secondGives("_", "_\n");
        Mills.secondGives("1", "1\n");
        Mills.secondGives("1a_Z9", "1a_Z9\n");
        Mills.secondGives("a1_Z9", "a1_Z9\n");
        Mills.secondGives("1.5", "1 . 5\n");
        Mills.secondGives("a-1", "a - 1\n");
        Mills.secondGives("9/0:A@Z[_^a{z", "9 / 0 : A @ Z [ _ ^ a { z\n");
        Mills.secondGives("x".repeat(400), "x".repeat(400) + "\n");
        Mills.sentence("Spaces are between tokens");
        Mills.secondGives("  a   b  ", "a b\n");
        Mills.secondGives("    ", "");
    }

    private static void stringsEndInTheirLine() {
        Mills.sentence("a STRING: from a \" up to the next one in its line, if there is one (else it is a SIGN)");
        Mills.secondGives("\"\"", "\"\"\n");
        Mills.secondGives("\"", "\"\n");
        Mills.secondGives("a\"", "a \"\n");
        Mills.secondGives("\"\"\"", "\"\" \"\n");
        Mills.secondGives("\"a  b\"", "\"a  b\"\n");
        Mills.secondGives("\"a  b", "\" a b\n");
        Mills.secondGives("\"a  b\n\"", "\" a b\n\"\n");
        Mills.secondGives("x\n\"a\nb\"\n\"c\"", "x\n\" a\nb \"\n\"c\"\n");
        Mills.secondGives("#define a b\n\"a\" \"a", "\"a\" \" b\n");
        Mills.secondGives("\"#\"##\"", "\"#\" ## \"\n");
    }

    private static void signsHaveOneOrTwo() {
        Mills.sentence("a SIGN: two characters, if they are one of ## == != <= >= && || << >>, otherwise one");
        for (char one = 33; one < 127; one++) {
            for (char other = 33; other < 127; other++) {
                boolean signs = !Character.isLetterOrDigit(one) && one != '_' && !Character.isLetterOrDigit(other) && other != '_';
                if (signs && one != '`' && other != '`' && !(one == '"' && other == '"')) {
                    boolean pair = " ## == != <= >= && || << >> ".contains(" " + one + other + " ");
                    Mills.secondGives("x" + one + other, "x " + one + (pair ? "" : " ") + other + "\n");
                }
            }
        }
        Mills.secondGives("x####", "x ## ##\n");
        Mills.secondGives("x###", "x ## #\n");
        Mills.secondGives("<<=", "<< =\n");
        Mills.secondGives("= =", "= =\n");
        Mills.secondGives("x=\n=", "x =\n=\n");
    }

    private static void linesAreNumbered() {
        Mills.sentence("ENDS end LINES (numbered from 0; what stands behind the last END is one more, if there is anything)");
        Mills.secondFails("#endif", Mills.LEVEL, 0, "");
        Mills.secondFails("\n#endif", Mills.LEVEL, 1, "");
        Mills.secondFails("\n".repeat(394) + "#endif", Mills.LEVEL, 394, "");
        Mills.secondFails("#if 1", Mills.LEVEL, 0, "");
        Mills.secondFails("#if 1\n", Mills.LEVEL, 0, "");
        Mills.secondFails("#if 1\n ", Mills.LEVEL, 1, "");
        Mills.secondFails("#if 1\n\n", Mills.LEVEL, 1, "");
        Mills.secondFails("#if 1\n\nx", Mills.LEVEL, 2, "x\n");
        Mills.secondGives("\n", "");
        Mills.secondGives("a\n", "a\n");
        Mills.secondGives("a\nb", "a\nb\n");
    }

    private static void ordersBeginWithOneSign() {
        Mills.sentence("A line whose first token is # (not ##) is an ORDER, by the word behind it");
        Mills.secondGives("##define a b\na", "## define a b\na\n");
        Mills.secondGives("x #define a b\na", "x # define a b\na\n");
        Mills.secondGives(" # define a b\na", "b\n");
        Mills.secondGives("###endif", "## # endif\n");
        Mills.secondFails("# ##endif", Mills.LINE, 0, "");
        Mills.secondGives("#define h #\nh define a b\nh endif", "# define a b\n# endif\n");
        Mills.secondGives("#define undef x\n#undef undef\nundef", "undef\n");
        Mills.sentence("A # alone is nothing.");
        Mills.secondGives("#", "");
        Mills.secondGives(" #  \n#\nx", "x\n");
    }

    private static void bodiesMayBeEmpty() {
        Mills.sentence("define W: the tokens behind it, perhaps none, are the BODY of W.");
        names(Mills.secondGives("#define a\n-a-\n#ifdef a\nyes\n#endif", "- -\nyes\n"), 1);
        names(Mills.secondGives("#define a b\n-a-", "- b -\n"), 1);
        names(Mills.secondGives("#define a()\n-a()-", "- -\n"), 1);
        names(Mills.secondGives("#define a+\na", "+\n"), 1);
        names(Mills.secondGives("#define a\"b\"\na", "\"b\"\n"), 1);
        names(Mills.secondGives("#define a)\na", ")\n"), 1);
    }

    private static void parametersFollowAtOnce() {
        Mills.sentence("If a \"(\" follows W at once, without a space: PARAMETERS come first, none, or up to 3 different words with \",\" between, and a \")\"");
        Mills.secondGives("#define f()x\nf()f", "x f\n");
        Mills.secondGives("#define f( )x\nf()", "x\n");
        Mills.secondGives("#define f(x)x\nf(1)", "1\n");
        Mills.secondGives("#define f(x,y)y x\nf(1,2)", "2 1\n");
        Mills.secondGives("#define f(x,y,z)z y x\nf(1,2,3)", "3 2 1\n");
        Mills.secondGives("#define f( x , y , z ) z y x\nf(1,2,3)", "3 2 1\n");
        Mills.secondGives("#define f (x)\nf", "( x )\n");
        Mills.secondGives("#define f (\nf", "(\n");
        Mills.secondGives("#define f (x,x\nf", "( x , x\n");
        Mills.secondGives("#define  f(f)f\nf(1)", "1\n");
    }

    private static void wrongParametersAreRefused() {
        Mills.sentence("up to 3 different words with \",\" between, and a \")\"");
        for (String wrong : new String[] {
            "(", "(x", "(x,", "(x,)", "(,", "(,)", "(,x)", "(x y)", "(x,y z)", "(1)", "(x,1)", "(x,x)", "(x,y,x)", "(y,x,x)", "(x,x,y)",
            "(x,y,z,w)", "(x,y,z,", "(x,y,z", "(x,y,z w)", "(x,y,z,)", "((x))", "(x;y)", "(\"x\")", "(x,,y)", "(#)",
        }) {
            names(Mills.secondFails("a\n#define f" + wrong + "\nb", Mills.LINE, 1, "a\n"), 0);
        }
        names(Mills.secondGives("#define f(x,y,xx)xx y x\nf(1,2,3)", "3 2 1\n"), 1);
    }

    private static String namesOf(int count) {
        StringBuilder text = new StringBuilder();
        for (int k = 0; k < count; k++) {
            text.append("#define a").append(k).append(k % 2 == 0 ? "" : "(x)").append(" ").append(k).append("\n");
        }
        return text.toString();
    }

    private static void thereAreEightNames() {
        Mills.sentence("(8 names, with 12 tokens each: ROOM.");
        names(Mills.secondGives(namesOf(7) + "a0 a6 a7", "0 6 a7\n"), 7);
        names(Mills.secondGives(namesOf(8) + "a0 a7() a8", "0 7 a8\n"), 8);
        names(Mills.secondFails("x\n" + namesOf(9) + "a0", Mills.ROOM, 9, "x\n"), 8);
        names(Mills.secondFails(namesOf(8) + "#define b", Mills.ROOM, 8, ""), 8);
        names(Mills.secondFails(namesOf(8) + "#define b()", Mills.ROOM, 8, ""), 8);
        for (int k = 0; k < 8; k++) {
            names(Mills.secondGives(namesOf(8) + "#define a" + k + " x\na" + k, "x\n"), 8);
            names(Mills.secondGives(namesOf(8) + "#undef a" + k + "\n#define b x\na" + k + " b", "a" + k + " x\n"), 8);
        }
        names(Mills.secondGives(namesOf(7) + "#define h(x,y,z) z y x\nh(1,2,3)", "3 2 1\n"), 8);
        names(Mills.secondFails(namesOf(8) + "#undef b\n#define b x\n", Mills.ROOM, 9, ""), 8);
        names(Mills.secondFails(namesOf(8) + "#undef a3\n#define b\n#define c", Mills.ROOM, 10, ""), 8);
    }

    private static void bodiesHaveTwelveTokens() {
        Mills.sentence("(8 names, with 12 tokens each: ROOM.");
        for (String name : new String[] {"a", "a()", "a(x)", "a(x,y)", "a(x,y,z)"}) {
            String call = name.replace("x", "").replace("y", "").replace("z", "");
            Mills.secondGives("#define " + name + TWELVE.substring(0, 23) + "\n" + call, TWELVE.substring(1, 23) + "\n");
            Mills.secondGives("#define " + name + TWELVE + "\n" + call, TWELVE.substring(1) + "\n");
            names(Mills.secondFails("q\n#define " + name + TWELVE + " 13\n" + call, Mills.ROOM, 1, "q\n"), 0);
            Mills.secondFails("#define " + name + " 1".repeat(100), Mills.ROOM, 0, "");
        }
        Mills.secondGives("#define a" + " \"a b\"".repeat(12) + "\na", "\"a b\" ".repeat(12).trim() + "\n");
        Mills.secondFails("#define a" + "+".repeat(13), Mills.ROOM, 0, "");
        Mills.secondGives("#define a" + "=".repeat(24) + "\na", "== ".repeat(12).trim() + "\n");
        names(Mills.secondFails(namesOf(8) + "#define b" + TWELVE + " 13", Mills.ROOM, 8, ""), 8);
    }

    private static void whatWWasGoes() {
        Mills.sentence("What W was before goes.");
        names(Mills.secondGives("#define a 1 2\n#define a 3\na", "3\n"), 1);
        names(Mills.secondGives("#define a 1\n#define a\n-a-", "- -\n"), 1);
        names(Mills.secondGives("#define a(x) x\n#define a 1\na a(2)", "1 1 ( 2 )\n"), 1);
        names(Mills.secondGives("#define a 1\n#define a(x) x\na a(2)", "a 2\n"), 1);
        names(Mills.secondGives("#define a(x,y) x\n#define a(y) x y\na(2)", "x 2\n"), 1);
        names(Mills.secondGives("#define f(x) 1 #x\n#define f(x) 1 #\nf(2)", "1 #\n"), 1);
        names(Mills.secondGives("#define f(x) x ## 1\n#define g 2\n#define f(x) x\nf(g)", "2\n"), 2);
        names(Mills.secondGives("#define a 1\n#define b(x) x\n#define a(x,y,z) y\nb(5)a(6,7,8)", "5 7\n"), 2);
    }

    private static void undefTakesAName() {
        Mills.sentence("undef W.");
        names(Mills.secondGives("#undef a\na", "a\n"), 0);
        names(Mills.secondGives("#define a 1\n#undef a\n#undef a\na", "a\n"), 0);
        names(Mills.secondGives("#define a(x) 1\n#undef a\na(1)", "a ( 1 )\n"), 0);
        names(Mills.secondGives("#define a 1\n#define b 2\n#undef a\na b", "a 2\n"), 1);
    }

    private static void wrongOrdersAreRefused() {
        Mills.sentence("What is not like that: LINE (tokens behind W of undef, ifdef, ifndef, or behind else and endif, too)");
        for (String wrong : new String[] {
            "x", "1", "+", "#", "##", "\"if\"", "Define a", "defin a", "defines a", "elif 1", "define", "define 1", "define +", "define (",
            "define \"a\"", "define # a", "undef", "undef 1", "undef a b", "undef a(", "undef (a)", "ifdef", "ifdef 1", "ifdef a b",
            "ifdef (a)", "ifndef", "ifndef 1", "ifndef a b", "ifndef +", "ifndef a #", "(", "if1", "ifx 1",
        }) {
            Mills.secondFails("a\n# " + wrong + "\nb", Mills.LINE, 1, "a\n");
        }
        Mills.secondFails("#if 1\n#else x\n#endif", Mills.LINE, 1, "");
        Mills.secondFails("#if 1\n#endif x\n", Mills.LINE, 1, "");
        Mills.secondFails("#if 0\n#else\n#endif x\n", Mills.LINE, 2, "");
        Mills.secondGives("#if 1\n# else\n# endif\n", "");
    }

    private static void linesGoAheadOfOtherReasons() {
        Mills.sentence("What is not like that: LINE");
        Mills.secondFails("#else x", Mills.LINE, 0, "");
        Mills.secondFails("#endif x", Mills.LINE, 0, "");
        Mills.secondFails("#if 0\n#else\n#else x", Mills.LINE, 2, "");
        String six = "#if 1\n".repeat(6);
        Mills.secondFails(six + "#ifdef a b", Mills.LINE, 6, "");
        Mills.secondFails(six + "#ifndef a b", Mills.LINE, 6, "");
        Mills.secondFails(six + "#ifdef", Mills.LINE, 6, "");
        Mills.secondFails(six + "#ifndef 1", Mills.LINE, 6, "");
        Mills.secondFails(namesOf(8) + "#define b(x", Mills.LINE, 8, "");
        Mills.secondFails(namesOf(8) + "#define 1", Mills.LINE, 8, "");
        Mills.secondFails("#define b(x,x)" + TWELVE + " 13", Mills.LINE, 0, "");
        Mills.secondFails("#define b(x y)" + TWELVE + " 13", Mills.LINE, 0, "");
        Mills.secondFails("#define b(x,y,z,w)" + TWELVE + " 13", Mills.LINE, 0, "");
        Mills.secondFails("#undef a" + " x".repeat(120), Mills.LINE, 0, "");
        Mills.secondFails("#x" + " x".repeat(120), Mills.LINE, 0, "");
    }
}
