/** Counts the answers of one test that are not the ones that are due. */
final class Due {
    private int right;
    private int wrong;

    void is(String call, long got, long want) {
        if (got == want) {
            right++;
            return;
        }
        wrong++;
        if (wrong <= 40) {
            System.out.println(call + " answered " + got + ", due is " + want);
        }
    }

    int wrong() {
        return wrong;
    }

    void end(String test) {
        System.out.println(test + ": " + right + " answers as due, " + wrong + " not");
        if (wrong != 0) {
            System.exit(1);
        }
    }

    /** Feeds a text, sign by sign. */
    static void feed(PastCatchers x, String text) {
        for (int i = 0; i < text.length(); i++) {
            x.feed(text.charAt(i));
        }
    }

    /** Feeds a text and reads a yard from it. */
    static int yard(PastCatchers x, String text) {
        feed(x, text);
        return x.yard();
    }
}
