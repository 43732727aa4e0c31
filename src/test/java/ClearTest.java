/** Promise 3. */
public final class ClearTest {
    public static void main(String[] args) {
        TwoMills mills = Mills.typed("define(a,b)a a");
        Mills.due("first()", 3, Mills.first(mills));
        Mills.due("second()", 4, Mills.second(mills));
        Mills.due("clear()", 14, mills.clear());
        Mills.due("output stays", "b b", Mills.output(mills));
        Mills.due("result stays", "b b\n", Mills.result(mills));
        Mills.states(mills, 2, 10);
        Mills.states(mills, 4, 1);
        Mills.due("clear() again", 0, mills.clear());
        Mills.due("second() still has the output", 4, Mills.second(mills));
        Mills.due("typing begins anew", 2, mills.type('x' | 'y' << 8, 2));
        Mills.due("first()", 2, Mills.first(mills));
        Mills.due("only the new text is milled", "xy", Mills.output(mills));
        Mills.due("the text stays typed when it is milled", 3, mills.type('z', 1));
        reasonsStay();
        thereIsRoomAgain();
        Mills.finish();
    }

    private static void reasonsStay() {
        TwoMills mills = Mills.typed("x\n\n#endif");
        Mills.first(mills);
        Mills.second(mills);
        Mills.due("clear()", 9, mills.clear());
        Mills.states(mills, 0, Mills.LEVEL);
        Mills.states(mills, 1, 2);
        Mills.due("result", "x\n", Mills.result(mills));
    }

    private static void thereIsRoomAgain() {
        TwoMills mills = Mills.typed("y".repeat(400));
        Mills.due("clear()", 400, mills.clear());
        Mills.type(mills, "z".repeat(400));
        Mills.due("clear()", 400, mills.clear());
    }
}
