/** Promise 2. */
public final class TypeTest {
    public static void main(String[] args) {
        charactersAreTypedLowestFirst();
        wrongNumbersAreRefused();
        wrongCharactersAreRefused();
        thereIsRoomFor400();
        Mills.finish();
    }

    private static void charactersAreTypedLowestFirst() {
        TwoMills mills = new TwoMills();
        Mills.due("type of 3", 3, mills.type('a' | '1' << 8 | '+' << 16, 3));
        Mills.due("type of 8 more", 11, mills.type(Mills.packed("bcdefghi"), 8));
        Mills.due("type of an END and a blank", 13, mills.type(10 | 32 << 8, 2));
        Mills.due("type of a ~", 14, mills.type(126, 1));
        Mills.due("what stands above the n bytes is not looked at", 15, mills.type(-256L | 'z', 1));
        Mills.first(mills);
        Mills.due("the text", "a1+bcdefghi\n ~z", Mills.output(mills));
    }

    private static void wrongNumbersAreRefused() {
        TwoMills mills = Mills.typed("ab");
        for (int n : new int[] {0, 9, -1, 64, Integer.MIN_VALUE, Integer.MAX_VALUE}) {
            Mills.due("type of n = " + n, "argument", outcome(mills, Mills.packed("abcdefgh"), n));
        }
        Mills.due("nothing was typed", 2, mills.clear());
    }

    private static void wrongCharactersAreRefused() {
        TwoMills mills = Mills.typed("ab");
        for (int c : new int[] {0, 9, 11, 13, 31, 127, 128, 255}) {
            Mills.due("type of " + c, "argument", outcome(mills, c, 1));
            Mills.due("type of " + c + " as the last one", "argument", outcome(mills, 'a' | c << 8, 2));
        }
        Mills.due("type of 8 with a bad highest one", "argument", outcome(mills, Long.MIN_VALUE | Mills.packed("abcdefgh"), 8));
        Mills.due("type of 8 without the last one", "argument", outcome(mills, Mills.packed("abcdefg"), 8));
        Mills.due("nothing was typed", 2, mills.clear());
    }

    private static void thereIsRoomFor400() {
        TwoMills mills = Mills.typed("x".repeat(396));
        Mills.due("5 more than 396", "state", outcome(mills, Mills.packed("abcde"), 5));
        Mills.due("a wrong character goes ahead of missing room", "argument", outcome(mills, 7, 5));
        Mills.due("4 more than 396", "400", outcome(mills, Mills.packed("abcd"), 4));
        Mills.due("one more than 400", "state", outcome(mills, 'e', 1));
        Mills.due("a wrong n goes ahead of missing room", "argument", outcome(mills, 'e', 0));
        Mills.due("first()", 400, Mills.first(mills));
        Mills.due("the text", "x".repeat(396) + "abcd", Mills.output(mills));
    }

    private static String outcome(TwoMills mills, long characters, int n) {
        try {
            return String.valueOf(mills.type(characters, n));
        } catch (IllegalArgumentException e) {
            return "argument";
        } catch (IllegalStateException e) {
            return "state";
        }
    }
}
