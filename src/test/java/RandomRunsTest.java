import java.util.Random;

/** Rules for every run: only the document's exceptions come, and nothing lasts that should not. */
public final class RandomRunsTest {
    private static final String[] PARTS = {
        "a", "b", "f", "x", "define", "define(", "pushdef(", "popdef(", "ifdef(", "ifelse(", "incr(", "len(", "shift(", "dnl", "a(", "f(", "f(",
        "(", ")", ")", ")", ",", ",", "`", "'", "$1", "$#", "$", " ", "\n", "\n", "1", "0", "-", "+", "/", "&&", "<<", "!", "\"", "#", "##",
        "\n#define ", "\n#define a ", "\n#define f(x) ", "\n#define f(x,b) ", "\n#undef a", "\n#if ", "\n#ifdef a", "\n#ifndef a", "\n#else",
        "\n#endif", "\n#endif\n", "#x", "x##b", "defined a",
    };

    public static void main(String[] args) {
        Random random = new Random(20261115);
        TwoMills lasting = new TwoMills();
        for (int run = 0; run < 20000; run++) {
            String text = text(random);
            TwoMills fresh = new TwoMills();
            Mills.due("run " + run + " of " + text, told(fresh, text), told(lasting, text));
        }
        Mills.finish();
    }

    private static String text(Random random) {
        StringBuilder text = new StringBuilder();
        int parts = random.nextInt(80);
        for (int k = 0; k < parts; k++) {
            text.append(PARTS[random.nextInt(PARTS.length)]);
        }
        return text.substring(0, Math.min(400, text.length()));
    }

    private static String told(TwoMills mills, String text) {
        mills.clear();
        Mills.type(mills, text);
        StringBuilder told = new StringBuilder();
        told.append(Mills.first(mills)).append(' ').append(mills.state(0)).append(' ').append(mills.state(2));
        told.append(' ').append(mills.state(4)).append(' ').append(Mills.output(mills));
        told.append(' ').append(Mills.second(mills)).append(' ').append(mills.state(0)).append(' ').append(mills.state(1));
        told.append(' ').append(mills.state(3)).append(' ').append(mills.state(5)).append(' ').append(Mills.result(mills));
        return told.toString();
    }
}
