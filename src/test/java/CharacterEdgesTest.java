/** Promise 7, sentence by sentence: where there is a character, and where there is none. */
public final class CharacterEdgesTest {
    private static final int[] FAR = {-1, -2, -400, 400, 600, 601, 1000, 1 << 16, Integer.MIN_VALUE, Integer.MAX_VALUE};

    public static void main(String[] args) {
        aNewObjectHasNone();
        theFirstAndTheLast();
        fullOnes();
        othersHaveNone();
        shorterOnesLeaveNone();
        failedOnesHaveWhatCame();
        Mills.finish();
    }

    private static void due(TwoMills mills, int of, int k, int want) {
        Mills.due("character(" + of + ", " + k + ")", want, mills.character(of, k));
    }

    private static void mill(TwoMills mills, String text) {
        mills.clear();
        Mills.type(mills, text);
        Mills.first(mills);
        Mills.second(mills);
    }

    private static void aNewObjectHasNone() {
        Mills.sentence("-1 when there is none");
        for (TwoMills mills : new TwoMills[] {new TwoMills(), Mills.typed("abc")}) {
            for (int of = -1; of <= 2; of++) {
                due(mills, of, 0, -1);
                for (int k : FAR) {
                    due(mills, of, k, -1);
                }
            }
        }
    }

    private static void theFirstAndTheLast() {
        Mills.sentence("The k-th character (from 0) of the OUTPUT (0) or the RESULT (1); -1 when there is none.");
        TwoMills mills = new TwoMills();
        mill(mills, "a\n~");
        int[] output = {-1, 'a', 10, '~', -1};
        int[] result = {-1, 'a', 10, '~', 10, -1};
        for (int k = 0; k < output.length; k++) {
            due(mills, 0, k - 1, output[k]);
        }
        for (int k = 0; k < result.length; k++) {
            due(mills, 1, k - 1, result[k]);
        }
    }

    private static void fullOnes() {
        Mills.sentence("-1 when there is none");
        TwoMills mills = new TwoMills();
        String line = "a a a a a\n";
        mill(mills, "#define a " + "1".repeat(39) + "\n" + line + line + line + "\n".repeat(319) + "z");
        Mills.states(mills, 6, 400);
        Mills.states(mills, 7, 600);
        due(mills, 0, 398, 10);
        due(mills, 0, 399, 'z');
        due(mills, 0, 400, -1);
        due(mills, 1, 598, '1');
        due(mills, 1, 599, 10);
        due(mills, 1, 600, -1);
    }

    private static void othersHaveNone() {
        Mills.sentence("-1 when there is none");
        TwoMills mills = new TwoMills();
        mill(mills, "abc");
        for (int of : FAR) {
            due(mills, of, 0, -1);
        }
        due(mills, 2, 0, -1);
        for (int k : FAR) {
            due(mills, 0, k, -1);
            due(mills, 1, k, -1);
        }
    }

    private static void shorterOnesLeaveNone() {
        Mills.sentence("-1 when there is none");
        TwoMills mills = new TwoMills();
        mill(mills, "abcdef");
        mills.clear();
        Mills.type(mills, "x");
        Mills.first(mills);
        due(mills, 0, 0, 'x');
        due(mills, 0, 1, -1);
        due(mills, 1, 5, 'f');
        due(mills, 1, 6, 10);
        Mills.second(mills);
        due(mills, 1, 0, 'x');
        due(mills, 1, 1, 10);
        due(mills, 1, 2, -1);
        mills.clear();
        due(mills, 0, 0, 'x');
        due(mills, 1, 0, 'x');
        Mills.first(mills);
        due(mills, 0, 0, -1);
        due(mills, 1, 0, 'x');
        Mills.second(mills);
        due(mills, 1, 0, -1);
    }

    private static void failedOnesHaveWhatCame() {
        Mills.sentence("The k-th character (from 0) of the OUTPUT (0) or the RESULT (1)");
        TwoMills mills = new TwoMills();
        mill(mills, "a\n#x\nb`c");
        due(mills, 0, 0, 'a');
        due(mills, 0, 5, 'b');
        due(mills, 0, 6, -1);
        due(mills, 1, 0, 'a');
        due(mills, 1, 1, 10);
        due(mills, 1, 2, -1);
    }
}
