/** Promise 5, sentence by sentence: the edges of rows, and of what "#" and "##" make. */
public final class SecondRoomEdgesTest {
    /** a brings twelve tokens, e none, and f what it is given. */
    private static final String NAMES = "#define a" + " x".repeat(12) + "\n#define e\n#define f(y) y\n";
    private static final String MAKERS = "#define d(x)\n#define e(x) d(x)\n#define s(x) #x #x #x #x #x #x\n#define j(x,y) x##y\n";

    public static void main(String[] args) {
        linesHave100Tokens();
        expressionsHave100Tokens();
        substitutionsComeIn();
        argumentsComeIn();
        rowsOfArgumentsHaveRoomToo();
        thereAre100DoneWith();
        oneRowTakesAllThereIs();
        rowsStandInOneAnother();
        rowsWithoutTokensCount();
        onlyExpandedArgumentsAreRows();
        stringsHaveRoom();
        joinedTokensHaveRoom();
        joiningGoesFromTheLeft();
        roomGoesAheadOfJoin();
        allOfOneRunTogether();
        argumentsAreExpandedEachTime();
        theBodysOrderCounts();
        joiningComesBehind();
        Mills.finish();
    }

    private static void gives(int replacements, String text, String result) {
        Mills.states(Mills.secondGives(text, result), 3, replacements);
    }

    private static void fails(int replacements, String text, int reason) {
        int line = (int) text.chars().filter(c -> c == '\n').count();
        Mills.states(Mills.secondFails(text, reason, line, ""), 3, replacements);
    }

    private static String row(int tokens) {
        return "x ".repeat(tokens).trim() + "\n";
    }

    private static void linesHave100Tokens() {
        Mills.sentence("ROOM: a row has at most 100 tokens that are not done with (looked at when a line's tokens, or an argument's, begin to be a row");
        gives(0, "x ".repeat(99), row(99));
        gives(0, "x ".repeat(100), row(100));
        fails(0, "x ".repeat(101), Mills.ROOM);
        fails(0, "+".repeat(101), Mills.ROOM);
        gives(0, "=".repeat(200), "== ".repeat(100).trim() + "\n");
        fails(0, "=".repeat(201), Mills.ROOM);
        gives(100, NAMES + "e ".repeat(100), "");
        fails(0, NAMES + "e ".repeat(101), Mills.ROOM);
        gives(1, NAMES + "f(" + "+".repeat(97) + ")", "+ ".repeat(97).trim() + "\n");
        fails(0, NAMES + "f(" + "+".repeat(98) + ")", Mills.ROOM);
        fails(0, NAMES + "f(" + "+".repeat(98), Mills.CALL);
        fails(0, NAMES + "f(" + "+".repeat(99), Mills.ROOM);
    }

    private static void expressionsHave100Tokens() {
        Mills.sentence("a row has at most 100 tokens that are not done with (looked at when a line's tokens");
        gives(0, "#if " + "~".repeat(99) + "1\nx\n#endif", "x\n");
        fails(0, "#if " + "~".repeat(100) + "1", Mills.ROOM);
        fails(0, "#if " + "(".repeat(100), Mills.VALUE);
        fails(0, "#if " + "(".repeat(101), Mills.ROOM);
        gives(0, "#if " + "-".repeat(99) + "defined x\nx\n#else\ny\n#endif", "y\n");
        gives(0, "#if " + "-".repeat(99) + "defined(x)\nx\n#else\ny\n#endif", "y\n");
        fails(0, "#if " + "-".repeat(100) + "defined(x)", Mills.ROOM);
    }

    private static void substitutionsComeIn() {
        Mills.sentence("and when a substitution comes in");
        gives(89, NAMES + "a " + "e ".repeat(88), row(12));
        fails(1, NAMES + "a " + "e ".repeat(89), Mills.ROOM);
        gives(89, NAMES + "e ".repeat(12) + "a " + "e ".repeat(76), row(12));
        gives(90, NAMES + "e a " + "e ".repeat(88), row(12));
        fails(2, NAMES + "e a " + "e ".repeat(89), Mills.ROOM);
        gives(90, "#define e\n#define b" + " e".repeat(12) + "\nb " + "e ".repeat(77), "");
        fails(1, "#define e\n#define b" + " e".repeat(12) + "\nb " + "e ".repeat(89), Mills.ROOM);
    }

    private static void argumentsComeIn() {
        Mills.sentence("and when a substitution comes in");
        String twice = "#define g(y) y y\n";
        gives(1, twice + "g(" + "+".repeat(49) + ")xx yy", "+ ".repeat(98) + "xx yy\n");
        fails(1, twice + "g(" + "+".repeat(49) + ")xx yy zz", Mills.ROOM);
        gives(1, twice + "g(" + "+".repeat(50) + ")", "+ ".repeat(100).trim() + "\n");
        fails(1, twice + "g(" + "+".repeat(51) + ")", Mills.ROOM);
        String strings = "#define g(y) #y #y #y\n";
        gives(1, strings + "g(1) " + "x ".repeat(96), "\"1\" \"1\" \"1\" " + row(96));
        // What joined, and what has no characters, is not counted any more.
        String joined = "#define g(y,z) z ## z 1 ## 1 z ## z y y\n";
        gives(1, joined + "g(" + "+".repeat(49) + ",)x", "11 " + "+ ".repeat(98) + "x\n");
        fails(1, joined + "g(" + "+".repeat(49) + ",)x x", Mills.ROOM);
    }

    private static void rowsOfArgumentsHaveRoomToo() {
        Mills.sentence("a row has at most 100 tokens that are not done with");
        gives(90, NAMES + "f(a " + "e ".repeat(88) + ")", row(12));
        fails(2, NAMES + "f(a " + "e ".repeat(89) + ")", Mills.ROOM);
        gives(9, NAMES + "f(" + "a ".repeat(8) + "x x x x)", row(100));
        fails(9, NAMES + "f(" + "a ".repeat(8) + "x x x x x)", Mills.ROOM);
        fails(9, NAMES + "f(" + "a ".repeat(8) + "x x x x)x", Mills.ROOM);
    }

    private static void thereAre100DoneWith() {
        Mills.sentence("and at most 100 that are done with");
        gives(8, NAMES + "a ".repeat(8) + "x x x", row(99));
        gives(8, NAMES + "a ".repeat(8) + "x x x x", row(100));
        fails(8, NAMES + "a ".repeat(8) + "x x x x x", Mills.ROOM);
        fails(8, NAMES + "a ".repeat(8) + "x x x x f", Mills.ROOM);
        gives(11, NAMES + "a ".repeat(8) + "x x x x e e e", row(100));
        gives(10, NAMES + "a ".repeat(8) + "x x x x f(e)", row(100));
        fails(9, NAMES + "a ".repeat(8) + "x x x x f(x)", Mills.ROOM);
        fails(9, NAMES + "a ".repeat(9), Mills.ROOM);
        fails(8, NAMES + "a ".repeat(8) + "x x x x f(", Mills.CALL);
        fails(9, NAMES + "#if " + "a ".repeat(9), Mills.ROOM);
        fails(8, NAMES + "#if " + "a ".repeat(8) + "x x x x", Mills.VALUE);
    }

    private static void oneRowTakesAllThereIs() {
        Mills.sentence("and at most 100 that are done with");
        String names = "#define e\n#define b x x x" + " e".repeat(9) + "\n#define c" + " e".repeat(12) + "\n";
        String all = names + "b ".repeat(33) + "c ".repeat(5) + "e ".repeat(5) + "x ";
        gives(400, all, row(100));
        fails(400, all + "e", Mills.SPENT);
        fails(400, all + "x", Mills.ROOM);
    }

    private static String nested(int calls, String inner) {
        return "f(".repeat(calls) + inner + ")".repeat(calls);
    }

    private static void rowsStandInOneAnother() {
        Mills.sentence("(8 rows in one another at most, also ones without tokens: ROOM)");
        for (int calls = 1; calls <= 7; calls++) {
            gives(calls, NAMES + nested(calls, "1"), "1\n");
        }
        fails(8, NAMES + nested(8, "1"), Mills.ROOM);
        fails(8, NAMES + nested(9, "1"), Mills.ROOM);
        gives(14, NAMES + nested(7, "1") + nested(7, "2"), "1 2\n");
        gives(13, NAMES + nested(6, nested(1, "1") + nested(1, "2").repeat(6)), "1" + " 2".repeat(6) + "\n");
        gives(7, NAMES + "#if " + nested(7, "1") + "\nx\n#endif", "x\n");
        fails(8, NAMES + "#if " + nested(8, "1"), Mills.ROOM);
    }

    private static void rowsWithoutTokensCount() {
        Mills.sentence("also ones without tokens: ROOM");
        gives(7, NAMES + nested(7, ""), "");
        fails(8, NAMES + nested(8, ""), Mills.ROOM);
        gives(8, NAMES + nested(7, "e"), "");
        fails(9, "#define f(y) y\n#define b f()\n" + nested(7, "b"), Mills.ROOM);
    }

    private static void onlyExpandedArgumentsAreRows() {
        Mills.sentence("any other one these EXPANDED by themselves (8 rows in one another at most");
        String names = "#define f(y) y\n#define s(y) #y\n#define j(y,z) y##z\n#define n() 1\n#define i(y) 2\n";
        gives(8, names + nested(7, "s(x)"), "\"x\"\n");
        gives(8, names + nested(7, "j(x,y)"), "xy\n");
        gives(8, names + nested(7, "n()"), "1\n");
        gives(8, names + nested(7, "i(x)"), "2\n");
        fails(8, names + nested(8, "x"), Mills.ROOM);
        gives(1, names + "s(" + nested(9, "x") + ")", "\"" + "f ( ".repeat(9) + "x" + " )".repeat(9) + "\"\n");
        gives(1, names + "i(" + nested(9, "x") + ")", "2\n");
    }

    /** Text that makes so many characters with # and ##, 600 at least, and brings nothing. */
    private static String makes(int count) {
        int each = count / 6 - 2;
        int more = count - 6 * (each + 2);
        return MAKERS + "e(s(" + "w".repeat(each) + "))\n" + (more == 0 ? "" : "e(j(" + "v".repeat(more) + ",))\n");
    }

    private static int made(int count) {
        return count % 6 == 0 ? 3 : 6;
    }

    private static void stringsHaveRoom() {
        Mills.sentence("STRINGS made by \"#\" and joined tokens have 900 characters at most, all of one second() together (each counts when it is made");
        gives(3, makes(900), "");
        String define = "#define q(x) #x\n";
        gives(made(898) + 1, makes(898) + define + "q()", "\"\"\n");
        fails(made(899) + 1, makes(899) + define + "q()", Mills.ROOM);
        gives(made(897) + 1, makes(897) + define + "q(1)", "\"1\"\n");
        fails(made(898) + 1, makes(898) + define + "q(1)", Mills.ROOM);
        gives(made(895) + 1, makes(895) + define + "q(1 2)", "\"1 2\"\n");
        fails(made(896) + 1, makes(896) + define + "q(1 2)", Mills.ROOM);
        fails(made(900) + 1, makes(900) + define + "q()", Mills.ROOM);
        Mills.states(Mills.secondFails(MAKERS + "e(s(" + "w".repeat(149) + "))", Mills.ROOM, 4, ""), 3, 2);
    }

    private static void joinedTokensHaveRoom() {
        Mills.sentence("STRINGS made by \"#\" and joined tokens have 900 characters at most");
        gives(made(898) + 1, makes(898) + "j(a,b)", "ab\n");
        fails(made(899) + 1, makes(899) + "j(a,b)", Mills.ROOM);
        gives(made(899) + 1, makes(899) + "j(a,)", "a\n");
        fails(made(900) + 1, makes(900) + "j(a,)", Mills.ROOM);
        fails(made(900) + 1, makes(900) + "j(,a)", Mills.ROOM);
        gives(made(900) + 1, makes(900) + "j(,)", "");
        gives(made(897) + 2, makes(897) + "j(,a)j(b,c)", "a bc\n");
        fails(made(898) + 2, makes(898) + "j(,a)j(b,c)", Mills.ROOM);
        gives(made(898) + 1, makes(898) + "#define q x ## y\nq", "xy\n");
        fails(made(899) + 1, makes(899) + "#define q x ## y\nq", Mills.ROOM);
    }

    private static void joiningGoesFromTheLeft() {
        Mills.sentence("Then, from the left, each ## of the body");
        // From the left it makes 3 and 4 characters, from the right 2 and 4.
        gives(made(893) + 1, makes(893) + "#define q aa ## b ## b\nq", "aabb\n");
        fails(made(894) + 1, makes(894) + "#define q aa ## b ## b\nq", Mills.ROOM);
    }

    private static void roomGoesAheadOfJoin() {
        Mills.sentence("ROOM for it, below, ahead of JOIN");
        fails(made(898) + 1, makes(898) + "j(+,+)", Mills.JOIN);
        fails(made(899) + 1, makes(899) + "j(+,+)", Mills.ROOM);
        fails(made(897) + 1, makes(897) + "j(\"s\",)", Mills.JOIN);
        fails(made(898) + 1, makes(898) + "j(\"s\",)", Mills.ROOM);
        fails(made(897) + 1, makes(897) + "#define q +##+ 1##2\nq", Mills.JOIN);
        fails(made(897) + 1, makes(897) + "#define q 1##2 +##+\nq", Mills.ROOM);
    }

    private static void allOfOneRunTogether() {
        Mills.sentence("all of one second() together");
        TwoMills mills = Mills.secondGives(makes(900) + "x", "x\n");
        Mills.due("the next second() has its own 900", 2, Mills.second(mills));
        TwoMills failed = Mills.secondFails(makes(900) + "j(a,)", Mills.ROOM, 5, "");
        Mills.due("it fails likewise", -1, Mills.second(failed));
        Mills.states(failed, 1, 5);
    }

    private static void argumentsAreExpandedEachTime() {
        Mills.sentence("an argument is EXPANDED, and its STRING made, each time the body asks for it");
        gives(1, "#define b 1\n#define g(y) 2\ng(b)", "2\n");
        gives(2, "#define b 1\n#define g(y) y\ng(b)", "1\n");
        gives(4, "#define b 1\n#define g(y) y y y\ng(b)", "1 1 1\n");
        gives(13, "#define b 1\n#define g(y)" + " y".repeat(12) + "\ng(b)", "1 ".repeat(12).trim() + "\n");
        gives(2, "#define b 1\n#define g(y) y #y y##y\ng(b)", "1 \"b\" bb\n");
        gives(1, "#define h(y,z) y\n#define g(y) #y\ng(h())", "\"h ( )\"\n");
        gives(1, "#define h(y,z) y\n#define g(y) 2\ng(h())", "2\n");
        fails(1, "#define h(y,z) y\n#define g(y) y\ng(h())", Mills.CALL);
        String define = "#define q(x) #x\n#define p(x) x x\n";
        gives(made(894) + 3, makes(894) + define + "p(q(1))", "\"1\" \"1\"\n");
        fails(made(895) + 3, makes(895) + define + "p(q(1))", Mills.ROOM);
    }

    private static void theBodysOrderCounts() {
        Mills.sentence("in the body's order");
        String define = "#define h(x) 1\n";
        fails(made(898) + 1, makes(898) + define + "#define q(x,y) x #y\nq(h(,),1)", Mills.CALL);
        fails(made(898) + 1, makes(898) + define + "#define q(x,y) #y x\nq(h(,),1)", Mills.ROOM);
        fails(made(898) + 1, makes(898) + define + "#define q(y,x) x #y\nq(1,h(,))", Mills.CALL);
        fails(2, "#define b +##+\n#define h(x) 1\n#define q(x,y) x y\nq(b,h(,))", Mills.JOIN);
        fails(1, "#define b +##+\n#define h(x) 1\n#define q(x,y) y x\nq(b,h(,))", Mills.CALL);
    }

    private static void joiningComesBehind() {
        Mills.sentence("joining comes behind that");
        fails(1, "#define h(x) 1\n#define q(x) +##+ x\nq(h(,))", Mills.CALL);
        fails(2, "#define h(x) 1\n#define q(x) +##+ x\nq(h())", Mills.JOIN);
        fails(made(897) + 1, makes(897) + "#define q(x) +##+ #x\nq()", Mills.ROOM);
        fails(made(896) + 1, makes(896) + "#define q(x) +##+ #x\nq()", Mills.JOIN);
        Mills.sentence("and when a substitution comes in");
        fails(1, "#define q(x) x x x +##+\nq(" + "1 ".repeat(40) + ")", Mills.JOIN);
        fails(1, "#define q(x) x x x 1##1\nq(" + "1 ".repeat(40) + ")", Mills.ROOM);
    }
}
