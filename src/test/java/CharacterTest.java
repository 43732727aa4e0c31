/** Promise 7. */
public final class CharacterTest {
    public static void main(String[] args) {
        TwoMills mills = Mills.typed("define(a,`+b')a1");
        Mills.first(mills);
        Mills.second(mills);
        due(mills, 0, 0, 'a');
        due(mills, 0, 1, '1');
        mills.clear();
        Mills.type(mills, "define(a,`+b')a 1");
        Mills.first(mills);
        due(mills, 0, 0, '+');
        due(mills, 0, 1, 'b');
        due(mills, 0, 2, ' ');
        due(mills, 0, 3, '1');
        due(mills, 0, 4, -1);
        due(mills, 1, 0, 'a');
        due(mills, 1, 0, 'a');
        Mills.second(mills);
        due(mills, 1, 0, '+');
        due(mills, 1, 1, ' ');
        due(mills, 1, 2, 'b');
        due(mills, 1, 3, ' ');
        due(mills, 1, 4, '1');
        due(mills, 1, 5, 10);
        due(mills, 1, 6, -1);
        wrongOnesAreNone(mills);
        whatWasThereIsGone(mills);
        Mills.finish();
    }

    private static void due(TwoMills mills, int of, int k, int want) {
        Mills.due("character(" + of + ", " + k + ")", want, mills.character(of, k));
    }

    private static void wrongOnesAreNone(TwoMills mills) {
        for (int k : new int[] {-1, 6, 400, 600, 601, Integer.MIN_VALUE, Integer.MAX_VALUE}) {
            due(mills, 0, k, -1);
            due(mills, 1, k, -1);
        }
        for (int of : new int[] {-1, 2, 3, Integer.MIN_VALUE, Integer.MAX_VALUE}) {
            due(mills, of, 0, -1);
        }
    }

    private static void whatWasThereIsGone(TwoMills mills) {
        mills.clear();
        Mills.type(mills, "z");
        Mills.first(mills);
        due(mills, 0, 0, 'z');
        due(mills, 0, 1, -1);
        due(mills, 1, 2, 'b');
        Mills.second(mills);
        due(mills, 1, 0, 'z');
        due(mills, 1, 1, 10);
        due(mills, 1, 2, -1);
    }
}
