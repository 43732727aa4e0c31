/** Promise 5, sentence by sentence: the edges of levels, of lines left out and of the result. */
public final class SecondLevelEdgesTest {
    private static final String[] BEGINS = {"#if 1\n", "#ifndef q\n", "#ifdef a\n"};

    public static void main(String[] args) {
        thereAreSixLevels();
        roomGoesAheadOfTheExpression();
        elseTurnsOnce();
        levelsHaveToBeThere();
        levelsAreOpenAtTheEnd();
        levelsHold();
        whatEndsLinesLeftOutIsOne();
        onlyTheirWordIsLookedAt();
        secondElsesAndSeventhLevels();
        innerLevelsAreLeftOut();
        linesLeftOutDoNothing();
        linesWithoutTokensBringNothing();
        theResultHas600();
        nothingOfTheLineComes();
        whatCameIsTheResult();
        Mills.finish();
    }

    private static void thereAreSixLevels() {
        Mills.sentence("if, ifdef, ifndef BEGIN a LEVEL (6 at most: ROOM");
        for (String begin : BEGINS) {
            for (int levels = 0; levels <= 6; levels++) {
                Mills.secondGives("#define a\n" + begin.repeat(levels) + "x\n" + "#endif\n".repeat(levels), "x\n");
            }
            Mills.secondFails("#define a\n" + begin.repeat(6) + "x\n" + begin + "#endif\n".repeat(7), Mills.ROOM, 8, "x\n");
            String again = begin.repeat(6) + "#endif\n".repeat(2) + begin.repeat(2);
            Mills.secondGives("#define a\n" + again + "x\n" + "#endif\n".repeat(6), "x\n");
            Mills.secondFails("#define a\n" + again + begin, Mills.ROOM, 11, "");
            Mills.secondGives("#define a\n" + (begin + "#endif\n").repeat(15) + "x", "x\n");
        }
        Mills.secondFails("#if 1\n".repeat(6) + "#else\n#if 1\n", Mills.ROOM, 7, "");
    }

    private static void roomGoesAheadOfTheExpression() {
        Mills.sentence("6 at most: ROOM, for if ahead of its expression");
        String six = "#if 1\n".repeat(6);
        for (String wrong : new String[] {"", "1/0", "(", "\"s\"", "f(", "j", "f(1)"}) {
            String define = "#define f(x) 1\n#define j +##x\n";
            Mills.states(Mills.secondFails(define + six + "#if " + wrong, Mills.ROOM, 8, ""), 3, 0);
        }
        Mills.secondFails("#if 1\n".repeat(5) + "#if 1/0", Mills.VALUE, 5, "");
        Mills.secondFails("#if 1\n".repeat(5) + "#if", Mills.VALUE, 5, "");
    }

    private static void elseTurnsOnce() {
        Mills.sentence("which endif ends; else turns it (once: LEVEL");
        Mills.secondGives("#if 1\na\n#else\nb\n#endif", "a\n");
        Mills.secondGives("#if 0\na\n#else\nb\n#endif", "b\n");
        Mills.secondFails("#if 1\na\n#else\nb\n#else\nc\n#endif", Mills.LEVEL, 4, "a\n");
        Mills.secondFails("#if 0\na\n#else\nb\n#else\nc\n#endif", Mills.LEVEL, 4, "b\n");
        Mills.secondGives("#if 1\n#else\n#endif\n#if 0\n#else\na\n#endif", "a\n");
        Mills.secondGives("#if 1\n#if 1\n#else\n#endif\n#else\n#endif\na", "a\n");
        Mills.secondFails("#if 1\n#if 1\n#else\n#endif\n#else\n#else", Mills.LEVEL, 5, "");
        Mills.secondGives("#ifdef q\na\n#else\nb\n#endif", "b\n");
        Mills.secondGives("#ifndef q\na\n#else\nb\n#endif", "a\n");
    }

    private static void levelsHaveToBeThere() {
        Mills.sentence("likewise without one");
        Mills.secondFails("#else", Mills.LEVEL, 0, "");
        Mills.secondFails("#endif", Mills.LEVEL, 0, "");
        Mills.secondFails("a\n#if 1\n#endif\n#else", Mills.LEVEL, 3, "a\n");
        Mills.secondFails("a\n#if 1\n#endif\n#endif", Mills.LEVEL, 3, "a\n");
        Mills.secondFails("#if 0\n#endif\n#endif", Mills.LEVEL, 2, "");
    }

    private static void levelsAreOpenAtTheEnd() {
        Mills.sentence("and at the text's end when one is open");
        Mills.secondGives("#if 1\n#endif", "");
        Mills.secondFails("#if 1\na", Mills.LEVEL, 1, "a\n");
        Mills.secondFails("#if 0\na", Mills.LEVEL, 1, "");
        Mills.secondFails("#if 0\n#else", Mills.LEVEL, 1, "");
        Mills.secondFails("#ifdef a", Mills.LEVEL, 0, "");
        Mills.secondFails("#ifndef a\n\n\n", Mills.LEVEL, 2, "");
        Mills.secondFails("#if 1\n#if 1\n#endif", Mills.LEVEL, 2, "");
        Mills.secondFails("#if 0\n#if 1\n#endif", Mills.LEVEL, 2, "");
        Mills.secondFails("#if 1\n".repeat(6), Mills.LEVEL, 5, "");
    }

    private static void levelsHold() {
        Mills.sentence("if holds when its value is not 0, ifdef when W has a body, ifndef when it has none, and behind else the other way round");
        for (String value : new String[] {"1", "-1", "2", "9223372036854775807", "1<<63", "4294967296"}) {
            Mills.secondGives("#if " + value + "\na\n#else\nb\n#endif", "a\n");
        }
        for (String value : new String[] {"0", "-0", "x", "1-1", "1<<63<<1"}) {
            Mills.secondGives("#if " + value + "\na\n#else\nb\n#endif", "b\n");
        }
        for (String body : new String[] {"", " 0", "(x)", "() 0"}) {
            Mills.secondGives("#define q" + body + "\n#ifdef q\na\n#else\nb\n#endif", "a\n");
            Mills.secondGives("#define q" + body + "\n#ifndef q\na\n#else\nb\n#endif", "b\n");
            Mills.secondGives("#define q" + body + "\n#undef q\n#ifdef q\na\n#else\nb\n#endif", "b\n");
        }
        Mills.secondGives("#define q r\n#ifdef r\na\n#else\nb\n#endif", "b\n");
    }

    private static void whatEndsLinesLeftOutIsOne() {
        Mills.sentence("(an else or endif that ends such ones is one of them)");
        Mills.secondGives("#if 0\n#else x\na\n#endif", "a\n");
        Mills.secondGives("#if 0\n#endif x\na", "a\n");
        Mills.secondGives("#if 1\n#else\n#endif x y\na", "a\n");
        Mills.secondFails("#if 1\n#else x\na\n#endif", Mills.LINE, 1, "");
        Mills.secondFails("#if 1\n#endif x\na", Mills.LINE, 1, "");
        Mills.secondFails("#if 0\n#else x\n#endif x\n", Mills.LINE, 2, "");
        Mills.secondGives("#if 0\n#if 1\n#else x\n#endif x\n#endif x\na", "a\n");
        Mills.secondFails("#if 1\n#if 0\n#endif x\n#endif x\na", Mills.LINE, 3, "");
    }

    private static void onlyTheirWordIsLookedAt() {
        Mills.sentence("only these five orders are looked at, by their word alone");
        for (String line : new String[] {
            "#x", "#", "# 1", "##", "# #", "#define", "#define a", "#define f(", "#undef", "#undef a b", "f(", "g(1,2)", "j", "\"", "##endif",
            "#endif1", "#elif", "x #endif", "#\"endif\"", "endif", "#(endif", "# # endif",
        }) {
            String define = "#define g(x) x\n#define j +##x\n";
            Mills.states(Mills.secondGives(define + "#if 0\n" + line + "\n#endif\na", "a\n"), 5, 2);
            Mills.states(Mills.secondGives(define + "#if 1\n#else\n" + line + "\n#endif\na", "a\n"), 5, 2);
        }
        for (String begin : new String[] {"#if", "#if 1/0", "#if (", "#ifdef", "#ifdef 1", "#ifdef a b", "#ifndef", "#ifndef + +", "#if" + " x".repeat(120)}) {
            Mills.secondGives("#if 0\n" + begin + "\n#endif\n#endif\na", "a\n");
            Mills.secondGives("#if 0\n" + begin + "\n#else 1\nb\n#endif 2\n#endif 3\na", "a\n");
            Mills.secondFails("#if 0\n" + begin + "\n#endif\na", Mills.LEVEL, 3, "");
        }
        Mills.secondGives("#if 0\n" + "x ".repeat(150) + "\n#endif\na", "a\n");
    }

    private static void secondElsesAndSeventhLevels() {
        Mills.sentence("(a second else, a seventh level are what they are)");
        Mills.secondFails("#if 1\n#else\n#else", Mills.LEVEL, 2, "");
        Mills.secondFails("#if 1\n#else\n#else x", Mills.LEVEL, 2, "");
        Mills.secondFails("#if 0\n#if 1\n#else\n#else\n", Mills.LEVEL, 3, "");
        Mills.secondFails("#if 0\n#if 1\n#else\n#else x\n", Mills.LEVEL, 3, "");
        for (String begin : new String[] {"#if 1\n", "#if\n", "#ifdef\n", "#ifndef a b\n", "#ifdef a\n"}) {
            Mills.secondGives("#if 0\n" + begin.repeat(5) + "#endif\n".repeat(6) + "a", "a\n");
            Mills.secondFails("#if 0\n" + begin.repeat(6) + "#endif\n".repeat(7) + "a", Mills.ROOM, 6, "");
            Mills.secondFails("#if 1\n".repeat(5) + "#if 0\n" + begin, Mills.ROOM, 6, "");
        }
    }

    private static void innerLevelsAreLeftOut() {
        Mills.sentence("what if, ifdef and ifndef begin there is left out on both sides of its else");
        for (String begin : new String[] {"#if 1", "#if 0", "#ifdef q", "#ifndef q"}) {
            String inner = begin + "\na\n#else\nb\n#endif\n";
            Mills.secondGives("#if 0\n" + inner + "#endif\nc", "c\n");
            Mills.secondGives("#if 0\n" + inner + "#else\nd\n#endif\nc", "d\nc\n");
            Mills.secondGives("#if 1\n#else\n" + inner + "#endif\nc", "c\n");
            Mills.secondGives("#if 0\n" + begin + "\n" + inner + "#else\n" + inner + "#endif\n#endif\nc", "c\n");
        }
    }

    private static void linesLeftOutDoNothing() {
        Mills.sentence("Lines are LEFT OUT where a level does not hold");
        Mills.states(Mills.secondGives("#if 0\n#define a b\n#endif\na", "a\n"), 5, 0);
        Mills.states(Mills.secondGives("#define a b\n#if 0\n#undef a\n#endif\na", "b\n"), 5, 1);
        Mills.states(Mills.secondGives("#define a b\n#if 0\na a a\n#endif\na", "b\n"), 3, 1);
        Mills.secondGives("#if 0\n" + "#define a\n#define b\n#define c\n".repeat(4) + "#endif\na", "a\n");
    }

    private static void linesWithoutTokensBringNothing() {
        Mills.sentence("one space between each two, and an END; nothing for no tokens");
        Mills.secondGives("a", "a\n");
        Mills.secondGives("a b", "a b\n");
        Mills.secondGives("\n \n  \na", "a\n");
        Mills.secondGives("#define e\n#define f(x) x\ne\ne e\nf()\nf(e)\na e", "a\n");
    }

    /** Text that brings 600 characters less a few. */
    private static String brings(int less) {
        String line = "a a a a a\n";
        return "#define e\n#define a " + "1".repeat(39) + "\n" + line + line + "a a a a " + "2".repeat(39 - less) + "\n";
    }

    private static String brought(int less) {
        String body = "1".repeat(39) + " ";
        String line = body.repeat(4) + "1".repeat(39) + "\n";
        return line + line + body.repeat(4) + "2".repeat(39 - less) + "\n";
    }

    private static void theResultHas600() {
        Mills.sentence("(600 characters: ROOM; then nothing of this line comes.)");
        Mills.states(Mills.secondGives(brings(1), brought(1)), 7, 599);
        Mills.states(Mills.secondGives(brings(0), brought(0)), 7, 600);
        Mills.states(Mills.secondFails(brings(0).replace("2\n", "22\n"), Mills.ROOM, 4, brought(0).substring(0, 400)), 7, 400);
        Mills.states(Mills.secondGives(brings(2) + "x", brought(2) + "x\n"), 7, 600);
        Mills.states(Mills.secondFails(brings(1) + "x", Mills.ROOM, 5, brought(1)), 7, 599);
        Mills.states(Mills.secondFails(brings(0) + "x", Mills.ROOM, 5, brought(0)), 7, 600);
        Mills.states(Mills.secondGives(brings(0) + "\n \n#\ne e\n#undef e\n", brought(0)), 7, 600);
        Mills.states(Mills.secondFails(brings(0) + "\n \n#\ne e\n#undef e\ne", Mills.ROOM, 10, brought(0)), 7, 600);
    }

    private static void nothingOfTheLineComes() {
        Mills.sentence("then nothing of this line comes");
        Mills.states(Mills.secondGives(brings(10) + "b c d e f", brought(10) + "b c d f\n"), 7, 598);
        Mills.states(Mills.secondGives(brings(10) + "b c d f g", brought(10) + "b c d f g\n"), 7, 600);
        Mills.states(Mills.secondFails(brings(10) + "b c d f gg", Mills.ROOM, 5, brought(10)), 7, 590);
        Mills.states(Mills.secondFails(brings(10) + "b\na", Mills.ROOM, 6, brought(10) + "b\n"), 7, 592);
    }

    private static void whatCameIsTheResult() {
        Mills.sentence("UnsupportedOperationException: it FAILED; what came until then is the RESULT.");
        String define = "#define f(x) x\n#define j +##x\na\nb\n";
        Mills.secondFails(define + "c f(", Mills.CALL, 4, "a\nb\n");
        Mills.secondFails(define + "c j", Mills.JOIN, 4, "a\nb\n");
        Mills.secondFails(define + "#if", Mills.VALUE, 4, "a\nb\n");
        Mills.secondFails(define + "#c", Mills.LINE, 4, "a\nb\n");
        Mills.secondFails(define + "#else", Mills.LEVEL, 4, "a\nb\n");
        Mills.secondFails(define + "c ".repeat(101), Mills.ROOM, 4, "a\nb\n");
        Mills.secondFails(define + "#if 1\nc", Mills.LEVEL, 5, "a\nb\nc\n");
    }
}
