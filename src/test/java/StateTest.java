/** Promise 6. */
public final class StateTest {
    public static void main(String[] args) {
        othersAreNothing();
        firstIsTold();
        secondIsTold();
        failuresAreTold();
        namesAreCountedWhereItFailed();
        Mills.finish();
    }

    private static void othersAreNothing() {
        TwoMills mills = Mills.typed("define(a,b)a");
        Mills.first(mills);
        Mills.second(mills);
        for (int what : new int[] {-1, 8, 9, 100, Integer.MIN_VALUE, Integer.MAX_VALUE}) {
            Mills.states(mills, what, -1);
        }
    }

    private static void states(TwoMills mills, int... wants) {
        for (int what = 0; what < wants.length; what++) {
            Mills.states(mills, what, wants[what]);
        }
    }

    private static void firstIsTold() {
        TwoMills mills = Mills.typed("define(a,`b c')a a");
        states(mills, 0, 0, 0, 0, 0, 0, 0, 0);
        Mills.first(mills);
        states(mills, 0, 0, 14, 0, 1, 0, 7, 0);
        Mills.second(mills);
        states(mills, 0, 0, 14, 0, 1, 0, 7, 8);
        mills.clear();
        states(mills, 0, 0, 14, 0, 1, 0, 7, 8);
        Mills.first(mills);
        states(mills, 0, 0, 0, 0, 0, 0, 0, 8);
        Mills.second(mills);
        states(mills, 0, 0, 0, 0, 0, 0, 0, 0);
    }

    private static void secondIsTold() {
        TwoMills mills = Mills.typed("#define a b\n#define c\n#define d\n#undef d\na a");
        Mills.first(mills);
        Mills.second(mills);
        states(mills, 0, 0, mills.state(2), 2, 0, 2, 44, 4);
        mills.clear();
        Mills.first(mills);
        states(mills, 0, 0, 0, 2, 0, 2, 0, 4);
    }

    private static void failuresAreTold() {
        TwoMills mills = Mills.typed("a\nb\n#endif\n");
        Mills.first(mills);
        Mills.second(mills);
        states(mills, Mills.LEVEL, 2);
        Mills.first(mills);
        states(mills, 0, 0);
        Mills.second(mills);
        states(mills, Mills.LEVEL, 2);
        mills.clear();
        Mills.type(mills, "x\ny`");
        Mills.first(mills);
        states(mills, Mills.QUOTE, 0);
        Mills.due("second() takes what was put until first() failed", 4, Mills.second(mills));
        states(mills, 0, 0);
        Mills.due("result", "x\ny\n", Mills.result(mills));
    }

    private static void namesAreCountedWhereItFailed() {
        Mills.states(Mills.secondFails("#define a\n#define b\n#define a x\n#x\n#define c\n", Mills.LINE, 3, ""), 5, 2);
        Mills.states(Mills.secondFails("#define a\n#undef a\n#if 1", Mills.LEVEL, 2, ""), 5, 0);
        Mills.states(Mills.secondFails("#define a\n#define b(x,x)\n", Mills.LINE, 1, ""), 5, 1);
    }
}
