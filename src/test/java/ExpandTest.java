/** Promise 5: to expand, and the substitution. */
public final class ExpandTest {
    public static void main(String[] args) {
        namesAreReplaced();
        nothingComesOutOfItself();
        callsTakeArguments();
        wrongCallsAreRefused();
        stringsAreMade();
        tokensAreJoined();
        wrongJoinsAreRefused();
        joinedTokensHideWhatBothHide();
        argumentsAreExpandedByThemselves();
        replacementsAreLimited();
        rowsAreLimited();
        depthIsLimited();
        madeCharactersAreLimited();
        Mills.finish();
    }

    private static void namesAreReplaced() {
        Mills.states(Mills.secondGives("#define a b\n#define b c\na b c", "c c c\n"), 3, 3);
        Mills.secondGives("#define a b\n\"a\" 1a a1 a", "\"a\" 1a a1 b\n");
        Mills.secondGives("#define a\na a\nx", "x\n");
        Mills.secondGives("#define a #x ## 1\nx", "x\n");
        Mills.secondGives("#define a # x\na", "# x\n");
    }

    private static void nothingComesOutOfItself() {
        Mills.states(Mills.secondGives("#define a a\na", "a\n"), 3, 1);
        Mills.secondGives("#define a b\n#define b a\na b", "a b\n");
        Mills.secondGives("#define a b c\n#define b a d\na b", "a d c b c d\n");
        Mills.secondGives("#define f(x) x+f(x)\nf(1)", "1 + f ( 1 )\n");
        Mills.secondGives("#define f(x) x f\nf(1)(2)", "1 f ( 2 )\n");
        Mills.secondGives("#define f(x) g\n#define g(x) f\nf(1)(2)(3)", "g\n");
        Mills.secondGives("#define f(x) x\nf(f(1))f(f)(1)", "1 f ( 1 )\n");
        Mills.secondGives("#define f(a) a*g\n#define g(a) f(a)\nf(2)(9)", "2 * 9 * g\n");
        Mills.secondGives("#define a f(b\n#define f(x) x\n#define b a\na)", "a\n");
        Mills.secondGives("#define a f\n#define f(x) x a\na(1)(2)", "1 f ( 2 )\n");
    }

    private static void callsTakeArguments() {
        Mills.secondGives("#define f(x) <x>\nf f+ f (1) f\n(1)", "f f + < 1 > f\n( 1 )\n");
        Mills.secondGives("#define f(x) <x>\nf() f((1,2)) f((,)(,))", "< > < ( 1 , 2 ) > < ( , ) ( , ) >\n");
        Mills.secondGives("#define f(x,y) <y|x>\nf(1,2) f(,) f(1,) f(,2) f((1,2),3)", "< 2 | 1 > < | > < | 1 > < 2 | > < 3 | ( 1 , 2 ) >\n");
        Mills.secondGives("#define f(x,y) <y|x>\n#define c ,\nf(1 c 2,3)", "< 3 | 1 , 2 >\n");
        Mills.secondGives("#define f(x) <x>\n#define o (\nf o 1 )", "f ( 1 )\n");
        Mills.secondGives("#define f(x) <x>\n#define g f\ng(1)", "< 1 >\n");
        Mills.secondGives("#define f(x) <x>\n#define g f (\ng 1)", "< 1 >\n");
        Mills.secondGives("#define f(x,y) x y\n#define g(x) f(x)\n#define c 1,2\ng(c)", "1 2\n");
        Mills.secondGives("#define f(x) <x>\n\"f(\" f", "\"f(\" f\n");
    }

    private static void wrongCallsAreRefused() {
        for (String wrong : new String[] {"f(", "f(1", "f((1)", "f(1,2", "f(1)", "f(1,2,3)", "f()", "f(,,)", "f(1,2,3,4,5,6)", "f((1,2))"}) {
            Mills.states(Mills.secondFails("#define f(x,y) x\na\n" + wrong, Mills.CALL, 2, "a\n"), 3, 0);
        }
        Mills.secondFails("#define f(x) x\nf(1,2)", Mills.CALL, 1, "");
        Mills.secondFails("#define f(x) x\nf(,)", Mills.CALL, 1, "");
        Mills.secondFails("#define f() x\nf(1)", Mills.CALL, 1, "");
        Mills.secondFails("#define f() x\nf(,)", Mills.CALL, 1, "");
        Mills.secondFails("#define f() x\n#define e\nf(e)", Mills.CALL, 2, "");
        Mills.secondFails("#define f(x) x\nf(1\n)", Mills.CALL, 1, "");
        Mills.states(Mills.secondFails("#define f(x) x\n#define g(x) x\n#define h g(1\nf(h)", Mills.CALL, 3, ""), 3, 2);
    }

    private static void stringsAreMade() {
        Mills.secondGives("#define f(x) #x\nf(a) f( a  + b ) f() f(\"s\") f((1,2))", "\"a\" \"a + b\" \"\" \"\"s\"\" \"( 1 , 2 )\"\n");
        Mills.secondGives("#define f(x) # x #y # #x #\nf(a)", "\"a\" # y # \"a\" #\n");
        Mills.secondGives("#define a b\n#define f(x) x #x\n#define g(x) f(x)\nf(a) g(a)", "b \"a\" b \"b\"\n");
        Mills.secondGives("#define f() #x\nf()", "# x\n");
        Mills.secondGives("#define f(x) #x\n#define g(x) f(f(x)) f(#x)\ng(1)", "\"f ( 1 )\" \"\"1\"\"\n");
        Mills.secondGives("#define f(x) #x\n#define a f(a)\na", "\"a\"\n");
    }

    private static void tokensAreJoined() {
        Mills.secondGives("#define f(x,y) x##y\nf(a,b) f(,b) f(a,) f(1,a) f(<,<) f(!,=) f(a b,c d)", "ab b a 1a << != a bc d\n");
        Mills.secondGives("#define f(x,y) x##y\n-f(,)-", "- -\n");
        Mills.secondGives("#define f(x,y) a x ## y ## b x\nf(,) f(1,) f(,_)", "a b a 1b 1 a _b\n");
        Mills.secondGives("#define a x ## y ## 1\na", "xy1\n");
        Mills.secondGives("#define a ## y\n#define b y ##\n#define c ##\na b c", "y y\n");
        Mills.secondGives("#define a ## ##\n#define b # ## #\n#define c ## ## ##\na b c", "## ## ##\n");
        Mills.secondGives("#define f(x) x ## ## b\nf()", "## b\n");
        Mills.secondGives("#define a \" ##\na", "\"\n");
        Mills.secondGives("#define f(x) x\n#define g(x) x ## 1\nf(a ## b) g(a ## b)", "a ## b a ## b1\n");
        Mills.secondGives("#define f(x,y) x##y\n#define a 1\n#define aa 5\nf(a,a) f(a,b)", "5 ab\n");
    }

    private static void wrongJoinsAreRefused() {
        for (String wrong : new String[] {"+,a", "a,+", "=,>", "\"s\",", ",\"s\"", "a,\"s\"", "\"s\",\"s\"", "+,+", "1,.", "(),a", "#,=", "&,|", "##,#"}) {
            Mills.states(Mills.secondFails("#define f(x,y) x##y\na\nf(" + wrong + ")", Mills.JOIN, 2, "a\n"), 3, 1);
        }
        Mills.secondFails("#define f(x) ## #x\nf(a)", Mills.JOIN, 1, "");
        Mills.secondFails("#define f(x) #x ##\nf()", Mills.JOIN, 1, "");
        Mills.secondFails("#define a x ## ## y\na", Mills.JOIN, 1, "");
        Mills.secondFails("#define a \" ## x\na", Mills.JOIN, 1, "");
    }

    private static void joinedTokensHideWhatBothHide() {
        String join = "#define j(x,y) x##y\n";
        Mills.states(Mills.secondGives(join + "#define ab j(a,b)\nab", "ab\n"), 3, 2);
        Mills.states(Mills.secondGives(join + "#define ab j(a,\nab b)", "j ( a ,\n"), 3, 3);
        Mills.states(Mills.secondGives(join + "#define a j(a,\na )", "j ( a ,\n"), 3, 3);
        Mills.states(Mills.secondGives(join + "#define a j(a,)\na", "a\n"), 3, 2);
        Mills.secondGives(join + "#define jj j\nj(j,)(1,2) j(j,j)(1,2)", "j ( 1 , 2 ) j ( 1 , 2 )\n");
    }

    private static void argumentsAreExpandedByThemselves() {
        Mills.states(Mills.secondGives("#define a 1\n#define f(x) x x\nf(a)", "1 1\n"), 3, 3);
        Mills.states(Mills.secondGives("#define a 1\n#define f(x) #x x##x\nf(a)", "\"a\" aa\n"), 3, 1);
        Mills.states(Mills.secondGives("#define a 1\n#define f(x)\nf(a)-", "-\n"), 3, 1);
        Mills.secondGives("#define g(x) x\n#define f(x) x(2)\nf(g)", "2\n");
        Mills.secondGives("#define f(x,y) y x\n#define a b\n#define b c\nf(a,f(b,a))", "c c c\n");
    }

    /** Lines that take 400 replacements and bring nothing: n calls in one another take 1, 4, 13 .. */
    private static String spending() {
        StringBuilder text = new StringBuilder("#define f(x) x x x\n#define j +##x\n");
        for (int calls : new int[] {5, 5, 5, 3, 3, 2, 2, 1, 1}) {
            text.append("f(".repeat(calls)).append(")".repeat(calls)).append("\n");
        }
        return text.toString();
    }

    private static void replacementsAreLimited() {
        Mills.states(Mills.secondGives(spending() + "f()\nx f", "x f\n"), 3, 400);
        Mills.states(Mills.secondFails(spending() + "f()\nx\nf()", Mills.SPENT, 13, "x\n"), 3, 400);
        Mills.states(Mills.secondFails(spending() + "f()\nj", Mills.SPENT, 12, ""), 3, 400);
        Mills.states(Mills.secondFails(spending() + "f()\nf(", Mills.CALL, 12, ""), 3, 400);
        Mills.states(Mills.secondFails(spending() + "f()\nf(,)", Mills.CALL, 12, ""), 3, 400);
        Mills.states(Mills.secondFails(spending() + "j", Mills.JOIN, 11, ""), 3, 400);
        Mills.states(Mills.secondFails(spending() + "f(j)", Mills.SPENT, 11, ""), 3, 400);
    }

    private static void rowsAreLimited() {
        Mills.secondGives("x ".repeat(100), "x ".repeat(99) + "x\n");
        Mills.secondFails("y\n" + "x ".repeat(101), Mills.ROOM, 1, "y\n");
        String twelve = "#define a x x x x x x x x x x x x\n#define e\n";
        Mills.secondGives(twelve + "a " + "e ".repeat(88), "x ".repeat(11) + "x\n");
        Mills.states(Mills.secondFails(twelve + "a " + "e ".repeat(89), Mills.ROOM, 2, ""), 3, 1);
        Mills.states(Mills.secondGives(twelve + "e ".repeat(100), ""), 3, 100);
        Mills.states(Mills.secondFails(twelve + "e ".repeat(101), Mills.ROOM, 2, ""), 3, 0);
        Mills.secondGives(twelve + "a ".repeat(8) + "x x x x", "x ".repeat(99) + "x\n");
        Mills.states(Mills.secondFails(twelve + "a ".repeat(9), Mills.ROOM, 2, ""), 3, 9);
        substitutionsAreLimited();
    }

    private static void substitutionsAreLimited() {
        // What comes may be longer than a row until its ## have joined; reasons of these go ahead.
        String six = "#define a x x x x x x\n#define b a a a a a a a a\n";
        Mills.states(Mills.secondFails(six + "#define f(x) x x x x + ## +\nf(b)", Mills.JOIN, 3, ""), 3, 37);
        Mills.states(Mills.secondFails(six + "#define f(x) x x x x + ## 1\nf(b)", Mills.JOIN, 3, ""), 3, 37);
        Mills.states(Mills.secondFails(six + "#define f(x) x x x x 1 ## 1\nf(b)", Mills.ROOM, 3, ""), 3, 37);
        Mills.states(Mills.secondGives(six + "#define f(x) x x 1 1 ## 1 ## 1 1 1\nf(b)", "x ".repeat(96) + "1 111 1 1\n"), 3, 19);
        Mills.states(Mills.secondFails(six + "#define f(x) x x 1 1 ## 1 ## 1 1 1 1\nf(b)", Mills.ROOM, 3, ""), 3, 19);
        Mills.states(Mills.secondFails(six + "#define f(x,y) x x x x y\nf(b,f()", Mills.CALL, 3, ""), 3, 0);
        Mills.states(Mills.secondFails(six + "#define f(x,y) x x x x y\nf(b,f())", Mills.CALL, 3, ""), 3, 37);
    }

    private static String nested(int calls, String inner) {
        return "f(".repeat(calls) + inner + ")".repeat(calls);
    }

    private static void depthIsLimited() {
        Mills.states(Mills.secondGives("#define f(x) x\n" + nested(7, "1"), "1\n"), 3, 7);
        Mills.states(Mills.secondGives("#define f(x) x\n" + nested(7, ""), ""), 3, 7);
        Mills.states(Mills.secondFails("#define f(x) x\n" + nested(8, "1"), Mills.ROOM, 1, ""), 3, 8);
        Mills.states(Mills.secondFails("#define f(x) x\n" + nested(8, ""), Mills.ROOM, 1, ""), 3, 8);
        Mills.states(Mills.secondGives("#define f(x) (x)\n#if " + nested(7, "1") + "\n1\n#endif", "1\n"), 3, 7);
        Mills.states(Mills.secondFails("#define f(x) (x)\n#if " + nested(8, "1") + "\n1\n#endif", Mills.ROOM, 1, ""), 3, 8);
        Mills.secondGives("#define f(x) #x\n" + nested(9, "1"), "\"" + "f ( ".repeat(8) + "1" + " )".repeat(8) + "\"\n");
    }

    private static void madeCharactersAreLimited() {
        // f makes six strings of 150 characters, which d drops again.
        String define = "#define d(x)\n#define e(x) d(x)\n#define f(x) #x #x #x #x #x #x\n#define j(x,y) x##y\n";
        String all = define + "e(f(" + "w".repeat(148) + "))\n";
        Mills.states(Mills.secondGives(all + "j(,)-", "-\n"), 3, 4);
        Mills.states(Mills.secondFails(all + "x\nj(1,)", Mills.ROOM, 6, "x\n"), 3, 4);
        Mills.states(Mills.secondFails(all + "j(+,+)", Mills.ROOM, 5, ""), 3, 4);
        Mills.states(Mills.secondFails(all + "f()", Mills.ROOM, 5, ""), 3, 4);
        String most = define + "e(f(" + "w".repeat(147) + "))\n";
        Mills.secondGives(most + "j(abc,def)", "abcdef\n");
        Mills.secondGives(most + "j(a,b)j(,b)j(c,dd)", "ab b cdd\n");
        Mills.secondFails(most + "j(a,b)j(,b)j(c,ddd)", Mills.ROOM, 5, "");
        Mills.secondFails(most + "j(abc,def)\nj(1,)", Mills.ROOM, 6, "abcdef\n");
        Mills.secondFails(most + "j(+,abcde)", Mills.JOIN, 5, "");
        Mills.secondFails(define + "e(f(" + "w".repeat(149) + "))\n", Mills.ROOM, 4, "");
    }
}
