/** Promises 1 to 3, sentence by sentence: the edges of a new object, of type and of clear. */
public final class TextEdgesTest {
    private static final int[] NO_CHARACTERS = {0, 1, 9, 11, 13, 31, 127, 128, 138, 160, 254, 255};

    public static void main(String[] args) {
        aNewObjectHasNoText();
        anObjectLasts512Calls();
        nIsFrom1To8();
        bytesAreCharacters();
        onlyTheLowestBytesAreLookedAt();
        thereAre400AtMost();
        nothingIsTypedWhenItIsRefused();
        clearTellsHowManyThereWere();
        clearLeavesWhatWasMilled();
        clearedTextIsNotMilled();
        Mills.finish();
    }

    private static String outcome(TwoMills mills, long characters, int n) {
        try {
            return String.valueOf(mills.type(characters, n));
        } catch (IllegalArgumentException e) {
            return "argument";
        } catch (IllegalStateException e) {
            return "state";
        }
    }

    private static String packedOutcome(TwoMills mills, String characters) {
        return outcome(mills, Mills.packed(characters), characters.length());
    }

    private static void aNewObjectHasNoText() {
        Mills.sentence("No text.");
        Mills.due("clear()", 0, new TwoMills().clear());
        Mills.due("type of one", "1", packedOutcome(new TwoMills(), "a"));
        TwoMills mills = new TwoMills();
        Mills.due("first()", 0, Mills.first(mills));
        Mills.states(mills, 2, 0);
        TwoMills full = Mills.typed("x".repeat(400));
        Mills.due("400 can be typed at first, and no more", "state", packedOutcome(full, "x"));
    }

    private static void anObjectLasts512Calls() {
        Mills.sentence("An object is used for at most 512 calls after it has been made");
        TwoMills mills = new TwoMills();
        for (int call = 1; call <= 512; call += 8) {
            Mills.due("type", "8", packedOutcome(mills, "len(abc)"));
            Mills.due("type", "12", packedOutcome(mills, "\n#if"));
            Mills.due("first()", 5, Mills.first(mills));
            Mills.due("second()", -1, Mills.second(mills));
            Mills.states(mills, 0, Mills.VALUE);
            Mills.states(mills, 1, 1);
            Mills.due("character(1, 0)", (int) '3', mills.character(1, 0));
            Mills.due("clear()", 12, mills.clear());
        }
    }

    private static void nIsFrom1To8() {
        Mills.sentence("IllegalArgumentException: n is not 1 .. 8");
        long letters = Mills.packed("abcdefgh");
        for (int n = 1; n <= 8; n++) {
            Mills.due("n = " + n, String.valueOf(n), outcome(new TwoMills(), letters, n));
        }
        for (int n : new int[] {0, -1, -8, 9, 10, 16, 256 + 1, Integer.MIN_VALUE, Integer.MIN_VALUE + 1, Integer.MAX_VALUE}) {
            Mills.due("n = " + n, "argument", outcome(new TwoMills(), letters, n));
        }
        Mills.due("n = 0 with no byte at all", "argument", outcome(new TwoMills(), 0, 0));
    }

    private static void bytesAreCharacters() {
        Mills.sentence("CHARACTERS are 10 (a line's END) and 32 .. 126");
        for (int c = 0; c < 256; c++) {
            boolean fine = c == 10 || c >= 32 && c <= 126;
            Mills.due("byte " + c, fine ? "1" : "argument", outcome(new TwoMills(), c, 1));
        }
        Mills.sentence("or one is no character");
        for (int place = 0; place < 8; place++) {
            for (int c : NO_CHARACTERS) {
                long others = Mills.packed("aaaaaaaa") & ~(255L << 8 * place);
                Mills.due(c + " at " + place, "argument", outcome(new TwoMills(), others | (long) c << 8 * place, 8));
            }
        }
    }

    private static void onlyTheLowestBytesAreLookedAt() {
        Mills.sentence("The n lowest bytes of a number are typed, the lowest first");
        for (int n = 1; n < 8; n++) {
            TwoMills mills = new TwoMills();
            String letters = "ab\n ~!9z".substring(0, n);
            Mills.due("the others are 0", String.valueOf(n), packedOutcome(mills, letters));
            long full = Mills.packed(letters) | -1L << 8 * n;
            Mills.due("the others are 255", String.valueOf(2 * n), outcome(mills, full, n));
            Mills.due("one byte more", "argument", outcome(mills, full, n + 1));
            Mills.first(mills);
            Mills.due("the text", letters + letters, Mills.output(mills));
        }
        Mills.due("all 8", "8", packedOutcome(new TwoMills(), "~~~~~~~~"));
    }

    private static void thereAre400AtMost() {
        Mills.sentence("IllegalStateException: there would be more than 400.");
        for (int n = 1; n <= 8; n++) {
            TwoMills mills = Mills.typed("x".repeat(400 - n));
            Mills.due(n + 1 + " where " + n + " fit", n == 8 ? "argument" : "state", outcome(mills, Mills.packed("yyyyyyyy"), n + 1));
            Mills.due(n + " where " + n + " fit", "400", packedOutcome(mills, "y".repeat(n)));
            Mills.due("one more than 400", "state", packedOutcome(mills, "z"));
            Mills.due("8 more than 400", "state", packedOutcome(mills, "zzzzzzzz"));
            Mills.due("clear()", 400, mills.clear());
        }
    }

    private static void nothingIsTypedWhenItIsRefused() {
        Mills.sentence("Nothing is typed then.");
        TwoMills mills = Mills.typed("ab");
        Mills.first(mills);
        Mills.due("n = 9", "argument", outcome(mills, Mills.packed("abcdefgh"), 9));
        Mills.due("n = 0", "argument", outcome(mills, Mills.packed("abcdefgh"), 0));
        Mills.due("the last one is no character", "argument", outcome(mills, Mills.packed("abcdefg\t"), 8));
        Mills.due("one more", "3", packedOutcome(mills, "c"));
        Mills.type(mills, "x".repeat(395));
        Mills.due("3 where 2 fit", "state", packedOutcome(mills, "yyy"));
        Mills.due("2 where 2 fit", "400", packedOutcome(mills, "zz"));
        Mills.due("the output stays meanwhile", "ab", Mills.output(mills));
        Mills.first(mills);
        Mills.due("the text", "abc" + "x".repeat(395) + "zz", Mills.output(mills));
    }

    private static void clearTellsHowManyThereWere() {
        Mills.sentence("The text becomes empty (what was milled stays): how many characters it had.");
        for (int n : new int[] {0, 1, 8, 9, 399, 400}) {
            TwoMills mills = Mills.typed("x".repeat(n));
            Mills.due("clear() of " + n, n, mills.clear());
            Mills.due("clear() of none", 0, mills.clear());
            Mills.due("type", "1", packedOutcome(mills, "y"));
            Mills.type(mills, "y".repeat(399));
            Mills.due("400 fit again, and no more", "state", packedOutcome(mills, "y"));
        }
    }

    private static void clearLeavesWhatWasMilled() {
        Mills.sentence("(what was milled stays)");
        TwoMills mills = Mills.typed("define(a,b)x\n#define y z\ny\n#endif");
        Mills.first(mills);
        Mills.second(mills);
        int[] told = new int[8];
        for (int what = 0; what < 8; what++) {
            told[what] = mills.state(what);
        }
        mills.clear();
        for (int what = 0; what < 8; what++) {
            Mills.states(mills, what, told[what]);
        }
        Mills.due("output", "x\n#define y z\ny\n#endif", Mills.output(mills));
        Mills.due("result", "x\nz\n", Mills.result(mills));
        Mills.due("second() fails again", -1, Mills.second(mills));
        Mills.due("result again", "x\nz\n", Mills.result(mills));
        TwoMills failed = Mills.typed("ab`");
        Mills.first(failed);
        failed.clear();
        Mills.states(failed, 0, Mills.QUOTE);
        Mills.due("output", "ab", Mills.output(failed));
    }

    private static void clearedTextIsNotMilled() {
        Mills.sentence("The text becomes empty");
        TwoMills mills = Mills.typed("abc");
        mills.clear();
        Mills.due("first()", 0, Mills.first(mills));
        Mills.type(mills, "d");
        Mills.due("first()", 1, Mills.first(mills));
        Mills.due("output", "d", Mills.output(mills));
    }
}
