/** Promise 1. */
public final class NewObjectTest {
    public static void main(String[] args) {
        TwoMills mills = new TwoMills();
        for (int what = 0; what <= 7; what++) {
            Mills.states(mills, what, 0);
        }
        Mills.due("character(0, 0)", -1, mills.character(0, 0));
        Mills.due("character(1, 0)", -1, mills.character(1, 0));
        Mills.due("clear()", 0, mills.clear());
        Mills.due("second() ahead of any first()", 0, Mills.second(mills));
        Mills.due("first() without a text", 0, Mills.first(mills));
        Mills.due("second() without an output", 0, Mills.second(mills));
        for (int what = 0; what <= 7; what++) {
            Mills.states(mills, what, 0);
        }
        twoObjectsAreApart();
        Mills.finish();
    }

    private static void twoObjectsAreApart() {
        TwoMills one = Mills.typed("define(a,b)a");
        TwoMills other = Mills.typed("a");
        Mills.due("first() of one", 1, Mills.first(one));
        Mills.due("first() of the other", 1, Mills.first(other));
        Mills.due("output of one", "b", Mills.output(one));
        Mills.due("output of the other", "a", Mills.output(other));
    }
}
