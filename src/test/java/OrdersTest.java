/** Promise 5: tokens, lines, orders and levels. */
public final class OrdersTest {
    public static void main(String[] args) {
        tokensAreCut();
        ordersAreKnown();
        wrongOrdersAreRefused();
        parametersAreRead();
        namesAreLimited();
        levelsLeaveLinesOut();
        linesLeftOutAreHardlyLookedAt();
        levelsAreLimited();
        levelsMatch();
        resultIsLimited();
        eachRunBeginsAnew();
        Mills.finish();
    }

    private static void tokensAreCut() {
        Mills.secondGives("", "");
        Mills.secondGives("\n\n  \n", "");
        Mills.secondGives("a", "a\n");
        Mills.secondGives("  a  b1_ 12ab_ _x\n\ny", "a b1_ 12ab_ _x\ny\n");
        Mills.secondGives("a+b<c\n", "a + b < c\n");
        Mills.secondGives("##==!=<=>=&&||<<>>", "## == != <= >= && || << >>\n");
        Mills.secondGives("===!==<<<=>&&&|||+++=--->*=", "== = != = << <= > && & || | + + + = - - - > * =\n");
        Mills.secondGives("x\"a  b\"y\"\"z", "x \"a  b\" y \"\" z\n");
        Mills.secondGives("x\"a  b\ny\"", "x \" a b\ny \"\n");
        Mills.secondGives("a # b", "a # b\n");
        Mills.secondGives("zA_09Z@AZaz[Az{0zAZ9_:", "zA_09Z @ AZaz [ Az { 0zAZ9_ :\n");
        Mills.secondGives("!$%^&*()-+=[]{};:@~,./<>?|\\", "! $ % ^ & * ( ) - + = [ ] { } ; : @ ~ , . / < > ? | \\\n");
        Mills.secondGives("## define a b\na", "## define a b\na\n");
    }

    private static void ordersAreKnown() {
        Mills.secondGives("#\n # \nx", "x\n");
        Mills.secondGives("#define a b\na", "b\n");
        Mills.secondGives("  #  define   a   b  +  c  \na", "b + c\n");
        Mills.secondGives("#define a\n-a-", "- -\n");
        Mills.secondGives("#define a b\n#define a c\na", "c\n");
        Mills.secondGives("#define a b\n#undef a\n#undef zz\na", "a\n");
        Mills.secondGives("#define a b\n#define b a\n#undef a\na b", "a a\n");
        Mills.secondGives("a\n#define a b\na", "a\nb\n");
        Mills.secondGives("#define define x\ndefine\n#define a b\na", "x\nb\n");
    }

    private static void wrongOrdersAreRefused() {
        for (String wrong : new String[] {
            "#x", "# 1", "# ##", "#\"a\"", "##x\n# #", "#Define a", "#define", "#define 1", "#define +", "#define \"a\"",
            "#undef", "#undef 1", "#undef a b", "#undef a(", "#ifdef", "#ifdef 1", "#ifdef a b", "#ifndef", "#ifndef a b",
            "#else x", "#endif x", "#elif 1", "#include a",
        }) {
            int line = wrong.startsWith("##") ? 1 : 0;
            Mills.secondFails("a\n" + wrong + "\nb", Mills.LINE, line + 1, line == 0 ? "a\n" : "a\n## x\n");
        }
        Mills.secondFails("#if 1\n#else x\n", Mills.LINE, 1, "");
        Mills.secondFails("#if 1\n#endif x\n", Mills.LINE, 1, "");
    }

    private static void parametersAreRead() {
        Mills.secondGives("#define f() x\nf() f( ) f", "x x f\n");
        Mills.secondGives("#define f( ) x\nf()", "x\n");
        Mills.secondGives("#define f (x) y\nf(z)", "( x ) y ( z )\n");
        Mills.secondGives("#define f(x) x+x\nf(1)", "1 + 1\n");
        Mills.secondGives("#define f( x , y , z ) z y x\nf(1,2,3)", "3 2 1\n");
        Mills.secondGives("#define f(f)f f\nf(1)", "1 1\n");
        Mills.secondGives("#define f(x)\n-f(1)-", "- -\n");
        for (String wrong : new String[] {
            "f(", "f(x", "f(x,", "f(x,)", "f(,)", "f(,x)", "f(x y)", "f(1)", "f(x,x)", "f(x,y,x)", "f(x,y,y)",
            "f(x,y,z,w)", "f(x,y,z", "f(x,y,z,)", "f((x))", "f(x;y)", "f(x+)", "f(\"x\")",
        }) {
            Mills.secondFails("#define " + wrong + " a", Mills.LINE, 0, "");
        }
    }

    private static void namesAreLimited() {
        StringBuilder eight = new StringBuilder();
        for (char c = 'a'; c < 'i'; c++) {
            eight.append("#define ").append(c).append(" 1\n");
        }
        Mills.states(Mills.secondGives(eight + "a h i", "1 1 i\n"), 5, 8);
        Mills.states(Mills.secondGives(eight + "#define d 2\nd", "2\n"), 5, 8);
        Mills.states(Mills.secondGives(eight + "#undef d\n#define i 2\nd i", "d 2\n"), 5, 8);
        Mills.states(Mills.secondFails("x\n" + eight + "#define i", Mills.ROOM, 9, "x\n"), 5, 8);
        Mills.states(Mills.secondFails(eight + "#define i(", Mills.LINE, 8, ""), 5, 8);
        String twelve = " 1 2 3 4 5 6 7 8 9 10 11 12";
        Mills.secondGives("#define a" + twelve + "\na", twelve.substring(1) + "\n");
        Mills.secondGives("#define f(x,y,z)" + twelve + "\nf(,,)", twelve.substring(1) + "\n");
        Mills.states(Mills.secondFails("#define a" + twelve + " 13\na", Mills.ROOM, 0, ""), 5, 0);
        Mills.secondFails("#define f(x)" + twelve + " 13\n", Mills.ROOM, 0, "");
        Mills.secondFails("#define f(x,x)" + twelve + " 13\n", Mills.LINE, 0, "");
    }

    private static void levelsLeaveLinesOut() {
        Mills.secondGives("#if 1\na\n#endif\nb", "a\nb\n");
        Mills.secondGives("#if 0\na\n#endif\nb", "b\n");
        Mills.secondGives("#if 1\na\n#else\nb\n#endif\nc", "a\nc\n");
        Mills.secondGives("#if 0\na\n#else\nb\n#endif\nc", "b\nc\n");
        Mills.secondGives("#ifdef a\nx\n#else\ny\n#endif", "y\n");
        Mills.secondGives("#define a\n#ifdef a\nx\n#else\ny\n#endif", "x\n");
        Mills.secondGives("#define a\n#ifndef a\nx\n#else\ny\n#endif", "y\n");
        Mills.secondGives("#define a\n#undef a\n#ifndef a\nx\n#endif", "x\n");
        Mills.secondGives("#if 0\n#define a b\n#else\n#define c d\n#endif\na c", "a d\n");
        Mills.secondGives("#if 1\n#if 0\na\n#else\nb\n#endif\nc\n#else\nd\n#endif", "b\nc\n");
        Mills.secondGives("#if 0\n#if 1\na\n#else\nb\n#endif\nc\n#else\nd\n#endif", "d\n");
        Mills.secondGives("#if 0\n#ifdef q\na\n#else\nb\n#endif\nc\n#endif", "");
        Mills.secondGives("#if 0\n#ifndef q\na\n#else\nb\n#endif\nc\n#endif", "");
        Mills.secondGives("#if -1\na\n#endif\n#if 5-5\nb\n#endif", "a\n");
    }

    private static void linesLeftOutAreHardlyLookedAt() {
        Mills.secondGives("#if 0\n#x\n# 1\n#\n#define\n#undef\nf(\n#define f(\n#endif\na", "a\n");
        Mills.secondGives("#if 0\n#if 1/0 (\n#else x\n#endif y\n#ifdef\n#endif\n#ifndef 1 2\n#endif\n#endif\na", "a\n");
        Mills.secondGives("#if 0\n#else x y\na\n#endif", "a\n");
        Mills.secondGives("#if 0\na\n#endif x y\nb", "b\n");
        Mills.secondGives("#if 1\na\n#else\nb\n#endif x\nc", "a\nc\n");
        Mills.secondGives("#if 0\n##endif\n#endif1\nelse\n#endif\nb", "b\n");
        Mills.secondFails("#if 0\n#else x\n#endif x\n", Mills.LINE, 2, "");
        Mills.secondFails("#if 0\n#if 1\n#else\n#else\n", Mills.LEVEL, 3, "");
        Mills.secondFails("#if 1\n#else\n#else x\n", Mills.LEVEL, 2, "");
    }

    private static void levelsAreLimited() {
        String six = "#if 1\n#ifndef a\n#if 1\n#if 1\n#if 1\n#if 1\n";
        String ends = "#endif\n".repeat(6);
        Mills.secondGives(six + "x\n" + ends, "x\n");
        Mills.secondGives(six + "#endif\n#if 1\nx\n" + ends, "x\n");
        Mills.secondFails(six + "#if 1/0\n", Mills.ROOM, 6, "");
        Mills.secondFails(six + "#if\n", Mills.ROOM, 6, "");
        Mills.secondFails(six + "#ifdef a\n", Mills.ROOM, 6, "");
        Mills.secondFails(six + "#ifndef a\n", Mills.ROOM, 6, "");
        Mills.secondFails(six + "#ifndef a b\n", Mills.LINE, 6, "");
        Mills.secondFails(six + "#ifdef\n", Mills.LINE, 6, "");
        String out = "#if 0\n#if 1\n#if 1\n#if 1\n#if 1\n#if 1\n";
        Mills.secondGives(out + "x\n" + ends + "y", "y\n");
        Mills.secondFails(out + "#if 1\n", Mills.ROOM, 6, "");
        Mills.secondFails(out + "#ifdef\n", Mills.ROOM, 6, "");
        Mills.secondFails(out + "#ifndef a b\n", Mills.ROOM, 6, "");
    }

    private static void levelsMatch() {
        Mills.secondFails("a\n#else\n", Mills.LEVEL, 1, "a\n");
        Mills.secondFails("a\n#endif\n", Mills.LEVEL, 1, "a\n");
        Mills.secondFails("#if 1\n#endif\n#endif", Mills.LEVEL, 2, "");
        Mills.secondFails("#if 1\n#else\n#else\n#endif", Mills.LEVEL, 2, "");
        Mills.secondFails("#if 0\n#else\n#else\n#endif", Mills.LEVEL, 2, "");
        Mills.secondFails("a\n#if 1\nb", Mills.LEVEL, 2, "a\nb\n");
        Mills.secondFails("a\n#if 1\nb\n", Mills.LEVEL, 2, "a\nb\n");
        Mills.secondFails("a\n#if 0\nb\n\n ", Mills.LEVEL, 4, "a\n");
        Mills.secondFails("#if 1", Mills.LEVEL, 0, "");
    }

    private static void resultIsLimited() {
        String body = "1".repeat(39);
        String define = "#define a " + body + "\n";
        String line = body + " " + body + " " + body + " " + body + " " + body + "\n";
        Mills.secondGives(define + "a a a a a\na a a a a\na a a a a\n", line + line + line);
        Mills.secondFails(define + "a a a a a\na a a a a\na a a a a\n\n#\nx", Mills.ROOM, 6, line + line + line);
        Mills.secondFails(define + "a a a a a\na a a a a\na a a a a 1\n", Mills.ROOM, 3, line + line);
        String shorter = define + "a a a a a\na a a a a\na a a a 1\n" + "x".repeat(36) + "\n";
        String result = line + line + (body + " ").repeat(4) + "1\n" + "x".repeat(36) + "\n";
        Mills.states(Mills.secondGives(shorter, result), 7, 599);
        Mills.states(Mills.secondFails(shorter + "y", Mills.ROOM, 5, result), 7, 599);
    }

    /** A token ends where the text ends, whatever stood there before. */
    private static void oldCharactersAreGone() {
        TwoMills mills = new TwoMills();
        for (String text : new String[] {"abc", "<<<", "###", "\"\"\"", "123"}) {
            mills.clear();
            Mills.type(mills, text);
            Mills.first(mills);
            Mills.second(mills);
            mills.clear();
            Mills.type(mills, text.substring(2));
            Mills.first(mills);
            Mills.second(mills);
            Mills.due("result", text.equals("###") ? "" : text.substring(2) + "\n", Mills.result(mills));
        }
    }

    private static void eachRunBeginsAnew() {
        TwoMills mills = Mills.typed("#define a b\n#if 1\na");
        Mills.first(mills);
        Mills.due("second() fails", -1, Mills.second(mills));
        Mills.due("second() fails again", -1, Mills.second(mills));
        Mills.states(mills, 3, 1);
        mills.clear();
        Mills.type(mills, "a");
        Mills.due("first()", 1, Mills.first(mills));
        Mills.due("second() has neither names nor levels", 2, Mills.second(mills));
        Mills.due("result", "a\n", Mills.result(mills));
        Mills.states(mills, 5, 0);
        Mills.states(mills, 3, 0);
        oldCharactersAreGone();
    }
}
