/** Promise 5, sentence by sentence: the edges of expanding and of what is hidden. */
public final class SecondExpandEdgesTest {
    /** 399 replacements that bring nothing, and a space behind them. */
    private static final String SPEND_399 = "#define e\n#define a" + " e".repeat(11) + "\n#define f(x) x\n#define j +##x\n"
            + "a ".repeat(33) + "e e e ";

    public static void main(String[] args) {
        onlyWordsWithABodyAreReplaced();
        aBracketHasToBeNext();
        bracketsHaveToBeClosed();
        argumentsArePartedByCommas();
        thereAreAsManyAsParameters();
        whatComesIsGoneOverNext();
        thereAre400Replacements();
        callGoesAheadOfSpent();
        aReplacementThatFailsCounts();
        tokensHideW();
        tokensHideWhatWsTokenHid();
        onlyWhatTheBracketHidAsWell();
        argumentsHideWhatTheyHid();
        eachLineBeginsWithNothingHidden();
        Mills.finish();
    }

    private static TwoMills gives(int replacements, String text, String result) {
        TwoMills mills = Mills.secondGives(text, result);
        Mills.states(mills, 3, replacements);
        return mills;
    }

    private static void fails(int replacements, String text, int reason, int line) {
        Mills.states(Mills.secondFails(text, reason, line, ""), 3, replacements);
    }

    private static void onlyWordsWithABodyAreReplaced() {
        Mills.sentence("a token that is a word with a body, which it doesn't hide: without parameters it is REPLACED by its substitution");
        gives(0, "a", "a\n");
        gives(1, "#define a b\na", "b\n");
        gives(1, "#define a\na", "");
        gives(0, "#define a b\n1a aa \"a\" a1 A _a", "1a aa \"a\" a1 A _a\n");
        gives(0, "#define a b\n#undef a\na", "a\n");
        gives(0, "a\n#define a b", "a\n");
    }

    private static void aBracketHasToBeNext() {
        Mills.sentence("With parameters, if the next token is a \"(\"");
        for (String define : new String[] {"#define f() x\n", "#define f(y) x\n", "#define f(y,z) x\n"}) {
            gives(0, define + "f", "f\n");
            gives(0, define + "f )", "f )\n");
            gives(0, define + "f + ()", "f + ( )\n");
            gives(0, define + "f\n()", "f\n( )\n");
            gives(0, define + "f [ ]", "f [ ]\n");
            gives(0, define + "(f)", "( f )\n");
            gives(0, define + "f \"(\" )", "f \"(\" )\n");
        }
        gives(2, "#define f(x) <x>\nf (1) f(1)", "< 1 > < 1 >\n");
        gives(1, "#define f(x) <x>\n#define o (\nf o 1)", "f ( 1 )\n");
        gives(1, "#define f(x) <x>\n#define e\nf e (1)", "f ( 1 )\n");
    }

    private static void bracketsHaveToBeClosed() {
        Mills.sentence("the row's tokens up to the \")\" that closes it (CALL, if there is none) are its arguments");
        for (String wrong : new String[] {"f(", "f((", "f(()", "f(1", "f(1,", "f((1)", "f(1 \")\"", "f(1\n)", "f(f(1)"}) {
            fails(0, "#define f(x) x\n" + wrong, Mills.CALL, 1);
        }
        gives(1, "#define f(x) x\nf((()))", "( ( ) )\n");
        gives(1, "#define f(x) x\nf())", ")\n");
        fails(1, "#define f(x) x\n#define c )\n#define b f(\nb 1 c", Mills.CALL, 3);
        fails(1, "#define f(x) x\n#define g(x) f(\ng(1)", Mills.CALL, 2);
        fails(2, "#define f(x) x\n#define b f(1\nf(b)", Mills.CALL, 2);
    }

    private static void argumentsArePartedByCommas() {
        Mills.sentence("parted by those \",\" that are in no more brackets");
        gives(1, "#define f(x,y) <x|y>\nf((1,2),3)", "< ( 1 , 2 ) | 3 >\n");
        gives(1, "#define f(x,y) <x|y>\nf(((,),),(,))", "< ( ( , ) , ) | ( , ) >\n");
        gives(1, "#define f(x) <x>\nf((,))", "< ( , ) >\n");
        gives(1, "#define f(x) <x>\nf(\",\")", "< \",\" >\n");
        gives(2, "#define f(x) <x>\n#define c ,\nf(c)", "< , >\n");
        fails(0, "#define f(x) <x>\nf([1,2])", Mills.CALL, 1);
        fails(0, "#define f(x) <x>\nf(()1,2)", Mills.CALL, 1);
    }

    private static void thereAreAsManyAsParameters() {
        Mills.sentence("there have to be as many as parameters (for none: no token; for one no token is one, empty; otherwise CALL)");
        String[] lists = {"", "x", "x,y", "x,y,z"};
        for (int parameters = 0; parameters <= 3; parameters++) {
            for (int commas = 0; commas <= 5; commas++) {
                for (String token : new String[] {"", "1"}) {
                    String call = "f(" + token + ("," + token).repeat(commas) + ")";
                    boolean fits = parameters == 0 ? call.equals("f()") : commas + 1 == parameters;
                    String define = "#define f(" + lists[parameters] + ") !\n";
                    if (fits) {
                        gives(1, define + call, "!\n");
                    } else {
                        fails(0, define + call, Mills.CALL, 1);
                    }
                }
            }
        }
        fails(0, "#define f() !\n#define e\nf(e)", Mills.CALL, 2);
        fails(0, "#define f() !\nf(())", Mills.CALL, 1);
        gives(1, "#define f() !\nf(  )", "!\n");
        gives(1, "#define f(x) <x>\nf()", "< >\n");
        gives(1, "#define f(x,y) <x|y>\nf(,)", "< | >\n");
    }

    private static void whatComesIsGoneOverNext() {
        Mills.sentence("What it is replaced by comes ahead of the rest, and is gone over next.");
        gives(3, "#define a b\n#define b c\n#define c d\na", "d\n");
        gives(2, "#define a f\n#define f(x) <x>\na(1)", "< 1 >\n");
        gives(2, "#define a f(\n#define f(x) <x>\na 1)", "< 1 >\n");
        gives(2, "#define a f(1\n#define f(x) <x>\na)", "< 1 >\n");
        gives(2, "#define f(x) x\n#define g(x) f\ng(1)(2)", "2\n");
        gives(1, "#define f(x) <x>\n#define e f\nf e", "f f\n");
    }

    private static void thereAre400Replacements() {
        Mills.sentence("400 replacements in all (SPENT instead of the next");
        gives(399, SPEND_399, "");
        gives(400, SPEND_399 + "e", "");
        gives(400, SPEND_399 + "f(x)", "x\n");
        gives(400, SPEND_399 + "e\nx f +", "x f +\n");
        fails(400, SPEND_399 + "e e", Mills.SPENT, 4);
        fails(400, SPEND_399 + "e f(1)", Mills.SPENT, 4);
        fails(400, SPEND_399 + "e j", Mills.SPENT, 4);
        fails(400, SPEND_399 + "f(e)", Mills.SPENT, 4);
        fails(400, SPEND_399 + "e\n\ne", Mills.SPENT, 6);
        fails(400, SPEND_399 + "e\n#if e", Mills.SPENT, 5);
        gives(400, SPEND_399 + "\n#if f(1)\nx\n#endif", "x\n");
        TwoMills mills = gives(400, SPEND_399 + "e", "");
        Mills.due("each second() has its own 400", 0, Mills.second(mills));
        Mills.states(mills, 3, 400);
    }

    private static void callGoesAheadOfSpent() {
        Mills.sentence("CALL ahead of it");
        fails(400, SPEND_399 + "e f(", Mills.CALL, 4);
        fails(400, SPEND_399 + "e f(1,2)", Mills.CALL, 4);
        fails(399, SPEND_399 + "f(f()", Mills.CALL, 4);
        fails(400, SPEND_399 + "f(f(,))", Mills.CALL, 4);
    }

    private static void aReplacementThatFailsCounts() {
        Mills.sentence("one in whose substitution the mill FAILS counts");
        fails(1, "#define j +##x\nj", Mills.JOIN, 1);
        fails(1, "#define f(x) x##+\nf(1)", Mills.JOIN, 1);
        fails(400, SPEND_399 + "j", Mills.JOIN, 4);
        fails(2, "#define f(x) x\n#define j +##x\nf(j)", Mills.JOIN, 2);
        fails(1, "#define f(x) x\n#define g() 1\nf(g(1))", Mills.CALL, 2);
        fails(8, "#define f(x) x\nf(f(f(f(f(f(f(f(1))))))))", Mills.ROOM, 1);
        fails(1, "#define f(x) x x x x\nf(" + "1 ".repeat(26) + ")", Mills.ROOM, 1);
    }

    private static void tokensHideW() {
        Mills.sentence("Then each of these tokens hides W, too");
        gives(1, "#define a a\na", "a\n");
        gives(2, "#define a a\na a", "a a\n");
        gives(1, "#define a a a\na", "a a\n");
        gives(1, "#define f(x) f(x)\nf(1)", "f ( 1 )\n");
        gives(1, "#define f(x) f\nf(1)(2)", "f ( 2 )\n");
        gives(2, "#define f(x) x\nf(f)(1) f(2)", "f ( 1 ) 2\n");
        gives(2, "#define f(x) x\nf(f(1))", "1\n");
    }

    private static void tokensHideWhatWsTokenHid() {
        Mills.sentence("and all that W's token hid");
        gives(2, "#define a b\n#define b a\na", "a\n");
        gives(3, "#define a b\n#define b c\n#define c a b c\na", "a b c\n");
        gives(2, "#define a b\n#define b a\nb", "b\n");
        gives(4, "#define a b c\n#define b a\n#define c a b\na", "a a a\n");
    }

    private static void onlyWhatTheBracketHidAsWell() {
        Mills.sentence("with parameters, of these only what the \")\" hid as well");
        gives(3, "#define f(x) g\n#define g(x) f\nf(1)(2)(3)", "g\n");
        gives(2, "#define a g(a)\n#define g(x) x a\na", "a a\n");
        gives(3, "#define a g(1\n#define g(x) x a\na)", "1 g ( 1\n");
        gives(3, "#define a g\n#define g(x) x a\na(1)", "1 g\n");
        gives(2, "#define a g(1)\n#define g(x) x a\na", "1 a\n");
    }

    private static void argumentsHideWhatTheyHid() {
        Mills.sentence("each token has a set of names that it HIDES, empty at first");
        gives(2, "#define a f(a)\n#define f(x) x\na", "a\n");
        gives(2, "#define a f(a\n#define f(x) x\na)", "a\n");
        gives(4, "#define a b\n#define f(x) x x a\nf(a)", "b b b\n");
        gives(3, "#define a f\n#define f(x) x a\na(1)(2)", "1 f ( 2 )\n");
    }

    private static void eachLineBeginsWithNothingHidden() {
        Mills.sentence("empty at first");
        gives(3, "#define a a\na\na\na", "a\na\na\n");
        gives(2, "#define a a\n#if a\n#endif\na", "a\n");
        gives(2, "#define a a\na\n#undef a\n#define a b\na", "a\nb\n");
    }
}
