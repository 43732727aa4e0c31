/** What the tests share: short ways to drive a TwoMills, and a count of wrong answers. */
final class Mills {
    static final int ROOM = 1;
    static final int SPENT = 2;
    static final int QUOTE = 3;
    static final int OPEN = 4;
    static final int NUMBER = 5;
    static final int LINE = 6;
    static final int JOIN = 7;
    static final int CALL = 8;
    static final int VALUE = 9;
    static final int LEVEL = 10;

    private static int wrong;
    private static int asked;
    private static String sentence = "";

    private Mills() {
    }

    /** The document's words that the next answers are about, so that a wrong one shows what broke. */
    static void sentence(String words) {
        sentence = words + "\n  ";
    }

    static void due(String what, Object want, Object got) {
        asked++;
        if (!want.equals(got)) {
            wrong++;
            System.out.println(sentence + what + "\n  due is   " + shown(want) + "\n  answered " + shown(got));
        }
    }

    private static String shown(Object answer) {
        return answer.toString().replace("\n", "\\n");
    }

    /** The last call of a test's main method. */
    static void finish() {
        System.out.println(asked + " answers, " + wrong + " wrong");
        if (wrong != 0) {
            System.exit(1);
        }
    }

    static TwoMills typed(String text) {
        TwoMills mills = new TwoMills();
        type(mills, text);
        return mills;
    }

    static void type(TwoMills mills, String text) {
        for (int from = 0; from < text.length(); from += 8) {
            int n = Math.min(8, text.length() - from);
            mills.type(packed(text.substring(from, from + n)), n);
        }
    }

    static long packed(String characters) {
        long number = 0;
        for (int k = characters.length() - 1; k >= 0; k--) {
            number = number << 8 | characters.charAt(k);
        }
        return number;
    }

    static String output(TwoMills mills) {
        return characters(mills, 0, mills.state(6));
    }

    static String result(TwoMills mills) {
        return characters(mills, 1, mills.state(7));
    }

    private static String characters(TwoMills mills, int of, int count) {
        StringBuilder text = new StringBuilder();
        for (int k = 0; k < count; k++) {
            text.append((char) mills.character(of, k));
        }
        return text.toString();
    }

    /** The answer of first(), or -1 if it throws what it may throw. */
    static int first(TwoMills mills) {
        try {
            return mills.first();
        } catch (UnsupportedOperationException e) {
            return -1;
        }
    }

    static int second(TwoMills mills) {
        try {
            return mills.second();
        } catch (UnsupportedOperationException e) {
            return -1;
        }
    }

    /** A text goes through the first mill and comes out as another. */
    static TwoMills firstGives(String text, String output) {
        TwoMills mills = typed(text);
        int answer = first(mills);
        due("first() of " + text, output, output(mills));
        due("what first() answers for " + text, output.length(), answer);
        due("state(0) for " + text, 0, mills.state(0));
        return mills;
    }

    /** The first mill fails with a reason, and this much was put until then. */
    static TwoMills firstFails(String text, int reason, String output) {
        TwoMills mills = typed(text);
        due("what first() answers for " + text, -1, first(mills));
        due("state(0) for " + text, reason, mills.state(0));
        due("state(1) for " + text, 0, mills.state(1));
        due("first() of " + text, output, output(mills));
        return mills;
    }

    /** A text that the first mill has to leave as it is goes through the second one. */
    static TwoMills secondGives(String text, String result) {
        TwoMills mills = typed(text);
        first(mills);
        due("output for " + text, text, output(mills));
        int answer = second(mills);
        due("state(0) for " + text, 0, mills.state(0));
        due("second() of " + text, result, result(mills));
        due("what second() answers for " + text, result.length(), answer);
        due("state(1) for " + text, 0, mills.state(1));
        return mills;
    }

    /** The second mill fails in a line with a reason, and this much came until then. */
    static TwoMills secondFails(String text, int reason, int line, String result) {
        TwoMills mills = typed(text);
        first(mills);
        due("output for " + text, text, output(mills));
        due("what second() answers for " + text, -1, second(mills));
        due("state(0) for " + text, reason, mills.state(0));
        due("state(1) for " + text, line, mills.state(1));
        due("second() of " + text, result, result(mills));
        return mills;
    }

    static void states(TwoMills mills, int what, int want) {
        due("state(" + what + ")", want, mills.state(what));
    }
}
