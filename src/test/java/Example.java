public final class Example {
    public static void main(String[] args) {
        TwoMills mills = new TwoMills();
        type(mills, "define(`twice', `$1 $1')dnl\n");
        type(mills, "#define MAX(a, b) a > b ? a : b\n");
        type(mills, "twice(`MAX(1, 2)')\n");
        try {
            mills.first();
            print(mills, 0);
            mills.second();
            print(mills, 1);
        } catch (UnsupportedOperationException e) {
            System.out.println("reason " + mills.state(0) + ", line " + mills.state(1));
        }
    }

    // A call of type() takes up to 8 characters, the first one in the lowest byte.
    private static void type(TwoMills mills, String text) {
        for (int k = 0; k < text.length(); k++) {
            mills.type(text.charAt(k), 1);
        }
    }

    private static void print(TwoMills mills, int of) {
        for (int k = 0; mills.character(of, k) >= 0; k++) {
            System.out.print((char) mills.character(of, k));
        }
    }
}
