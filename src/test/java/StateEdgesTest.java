/** Promise 6, sentence by sentence: what is told behind calls that failed and calls that didn't. */
public final class StateEdgesTest {
    private static final String SPENDING = "#define e\n#define a" + " e".repeat(11) + "\n" + "a ".repeat(33) + "\ne e e e e";

    public static void main(String[] args) {
        othersAreNothing();
        aNewObjectHasNothing();
        firstTellsItsReasons();
        secondTellsItsReasons();
        theLatestCallCounts();
        theLineIsTold();
        theLineOfTheTextsEnd();
        thePiecesAreTold();
        theReplacementsAreTold();
        theDefinitionsAreTold();
        theNamesAreTold();
        theCharactersAreTold();
        tellingChangesNothing();
        Mills.finish();
    }

    private static void states(TwoMills mills, int... wants) {
        for (int what = 0; what < wants.length; what++) {
            Mills.states(mills, what, wants[what]);
        }
    }

    private static void retype(TwoMills mills, String text) {
        mills.clear();
        Mills.type(mills, text);
    }

    private static void othersAreNothing() {
        Mills.sentence("-1 for others");
        TwoMills fresh = new TwoMills();
        TwoMills fine = Mills.typed("define(a,b)a");
        Mills.first(fine);
        Mills.second(fine);
        TwoMills failed = Mills.typed("#x");
        Mills.first(failed);
        Mills.second(failed);
        for (int what : new int[] {-1, -2, -8, 8, 9, 10, 16, 256, 1 << 16, Integer.MIN_VALUE, Integer.MAX_VALUE}) {
            Mills.states(fresh, what, -1);
            Mills.states(fine, what, -1);
            Mills.states(failed, what, -1);
        }
    }

    private static void aNewObjectHasNothing() {
        Mills.sentence("What is there");
        states(new TwoMills(), 0, 0, 0, 0, 0, 0, 0, 0);
        states(Mills.typed("#endif"), 0, 0, 0, 0, 0, 0, 0, 0);
        TwoMills mills = Mills.typed("x");
        Mills.second(mills);
        states(mills, 0, 0, 0, 0, 0, 0, 0, 0);
    }

    private static void firstTellsItsReasons() {
        Mills.sentence("0 the REASON of the latest first() or second(), 0 if it didn't fail");
        String[] texts = {"shift(,,,,,)", "define(a,`a')a", "`", "len(", "incr(a)"};
        TwoMills mills = new TwoMills();
        for (int reason = 1; reason <= texts.length; reason++) {
            retype(mills, texts[reason - 1]);
            Mills.due("first() of " + texts[reason - 1], -1, Mills.first(mills));
            states(mills, reason, 0);
            retype(mills, "x");
            Mills.states(mills, 0, reason);
            Mills.due("first()", 1, Mills.first(mills));
            states(mills, 0, 0);
        }
    }

    private static void secondTellsItsReasons() {
        Mills.sentence("0 the REASON of the latest first() or second(), 0 if it didn't fail");
        String[] texts = {"x ".repeat(101), SPENDING, "#x", "#define b +##+\nb", "#define f(x)\nf(", "#if", "#endif"};
        int[] reasons = {Mills.ROOM, Mills.SPENT, Mills.LINE, Mills.JOIN, Mills.CALL, Mills.VALUE, Mills.LEVEL};
        int[] lines = {0, 3, 0, 1, 1, 0, 0};
        TwoMills mills = new TwoMills();
        for (int k = 0; k < texts.length; k++) {
            retype(mills, texts[k]);
            Mills.due("first() of " + texts[k], texts[k].length(), Mills.first(mills));
            Mills.states(mills, 0, 0);
            Mills.due("second() of " + texts[k], -1, Mills.second(mills));
            states(mills, reasons[k], lines[k]);
            retype(mills, "x");
            Mills.first(mills);
            states(mills, 0, 0);
            Mills.due("second()", 2, Mills.second(mills));
            states(mills, 0, 0);
        }
    }

    private static void theLatestCallCounts() {
        Mills.sentence("0 the REASON of the latest first() or second()");
        TwoMills mills = Mills.typed("#x`");
        Mills.first(mills);
        Mills.states(mills, 0, Mills.QUOTE);
        Mills.second(mills);
        Mills.states(mills, 0, Mills.LINE);
        Mills.first(mills);
        Mills.states(mills, 0, Mills.QUOTE);
        retype(mills, "x`");
        Mills.first(mills);
        Mills.states(mills, 0, Mills.QUOTE);
        Mills.due("second()", 2, Mills.second(mills));
        Mills.states(mills, 0, 0);
    }

    private static void theLineIsTold() {
        Mills.sentence("1 the number of the line in which second() failed (0 otherwise, and behind first()");
        TwoMills mills = Mills.typed("a\nb\n#x\nc");
        Mills.first(mills);
        Mills.second(mills);
        Mills.states(mills, 1, 2);
        mills.clear();
        Mills.states(mills, 1, 2);
        Mills.type(mills, "y\n`");
        Mills.states(mills, 1, 2);
        Mills.first(mills);
        states(mills, Mills.QUOTE, 0);
        Mills.second(mills);
        states(mills, 0, 0);
        retype(mills, "\n\n\n#x");
        Mills.first(mills);
        Mills.second(mills);
        Mills.states(mills, 1, 3);
        Mills.first(mills);
        Mills.states(mills, 1, 0);
        Mills.second(mills);
        Mills.states(mills, 1, 3);
        retype(mills, "\n\n\nx");
        Mills.first(mills);
        Mills.second(mills);
        Mills.states(mills, 1, 0);
    }

    private static void theLineOfTheTextsEnd() {
        Mills.sentence("that of the text's end is that of its last line");
        Mills.secondFails("#if 1", Mills.LEVEL, 0, "");
        Mills.secondFails("#if 1\n", Mills.LEVEL, 0, "");
        Mills.secondFails("#if 1\n ", Mills.LEVEL, 1, "");
        Mills.secondFails("#if 1\n\n\n", Mills.LEVEL, 2, "");
        Mills.secondFails("#if 0\n\n\nx", Mills.LEVEL, 3, "");
        Mills.secondFails("\n".repeat(395) + "#if 1", Mills.LEVEL, 395, "");
    }

    private static void thePiecesAreTold() {
        Mills.sentence("2 the pieces of the latest first()");
        TwoMills mills = Mills.typed("ab c\n");
        Mills.states(mills, 2, 0);
        Mills.first(mills);
        Mills.states(mills, 2, 4);
        Mills.second(mills);
        Mills.states(mills, 2, 4);
        retype(mills, "a`");
        Mills.states(mills, 2, 4);
        Mills.first(mills);
        Mills.states(mills, 2, 2);
        mills.clear();
        Mills.first(mills);
        Mills.states(mills, 2, 0);
    }

    private static void theReplacementsAreTold() {
        Mills.sentence("3 the replacements of the latest second()");
        TwoMills mills = Mills.typed("#define a b\na a\n#x");
        Mills.first(mills);
        Mills.states(mills, 3, 0);
        Mills.second(mills);
        Mills.states(mills, 3, 2);
        retype(mills, "x");
        Mills.first(mills);
        Mills.states(mills, 3, 2);
        Mills.second(mills);
        Mills.states(mills, 3, 0);
    }

    private static void theDefinitionsAreTold() {
        Mills.sentence("4 the definitions behind the latest first()");
        TwoMills mills = Mills.typed("pushdef(`a')pushdef(`a')define(b)popdef(`a')");
        Mills.first(mills);
        Mills.states(mills, 4, 2);
        Mills.second(mills);
        Mills.states(mills, 4, 2);
        retype(mills, "define(a,b)`");
        Mills.states(mills, 4, 2);
        Mills.first(mills);
        Mills.states(mills, 4, 1);
        mills.clear();
        Mills.first(mills);
        Mills.states(mills, 4, 0);
    }

    private static void theNamesAreTold() {
        Mills.sentence("5 the names with a body behind the latest second() (up to where they failed)");
        TwoMills mills = Mills.typed("#define a\n#define b(x) x\n#define c\n#undef a\n#define b\n");
        Mills.first(mills);
        Mills.states(mills, 5, 0);
        Mills.second(mills);
        Mills.states(mills, 5, 2);
        retype(mills, "#define a\n#x\n#define b\n");
        Mills.first(mills);
        Mills.states(mills, 5, 2);
        Mills.second(mills);
        Mills.states(mills, 5, 1);
        retype(mills, "#define a\n#define b(x,x)\n");
        Mills.first(mills);
        Mills.second(mills);
        Mills.states(mills, 5, 1);
        mills.clear();
        Mills.first(mills);
        Mills.second(mills);
        Mills.states(mills, 5, 0);
    }

    private static void theCharactersAreTold() {
        Mills.sentence("6 and 7 how many characters OUTPUT and RESULT have");
        TwoMills mills = Mills.typed("a+b");
        Mills.first(mills);
        Mills.states(mills, 6, 3);
        Mills.states(mills, 7, 0);
        Mills.second(mills);
        Mills.states(mills, 6, 3);
        Mills.states(mills, 7, 6);
        retype(mills, "`");
        Mills.first(mills);
        Mills.states(mills, 6, 0);
        Mills.states(mills, 7, 6);
        Mills.second(mills);
        Mills.states(mills, 7, 0);
        retype(mills, "x".repeat(400));
        Mills.first(mills);
        Mills.second(mills);
        Mills.states(mills, 6, 400);
        Mills.states(mills, 7, 401);
    }

    private static void tellingChangesNothing() {
        Mills.sentence("What is there");
        TwoMills mills = Mills.typed("define(a,b)a\n#define c d\nc\n#x");
        Mills.first(mills);
        Mills.second(mills);
        for (int k = 0; k < 3; k++) {
            states(mills, Mills.LINE, 3, mills.state(2), 1, 1, 1, 18, 4);
            Mills.due("output", "b\n#define c d\nc\n#x", Mills.output(mills));
            Mills.due("result", "b\nd\n", Mills.result(mills));
        }
    }
}
