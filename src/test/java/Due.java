/** Compares answers with what is due, and ends a test's run with exit code 1 if one was wrong. */
final class Due {
    private final String about;
    private int checked;
    private int wrong;

    Due(String about) {
        this.about = about;
    }

    void is(String call, long got, long want) {
        checked++;
        if (got != want) {
            wrong++;
            System.out.println(about + ": " + call + " answered " + got + ", due is " + want);
        }
    }

    /** Feeds a whole text to the tape, eight bytes a call and the rest by one more. */
    static void feed(PlateHire x, String text) {
        for (int at = 0; at < text.length(); at += 8) {
            int n = Math.min(8, text.length() - at);
            long w = 0;
            for (int i = 0; i < n; i++) {
                w = w << 8 | text.charAt(at + i);
            }
            x.feed(w, n);
        }
    }

    static int law(PlateHire x, String text) {
        feed(x, text);
        return x.law();
    }

    void end() {
        System.out.println(about + ": " + checked + " answers, " + wrong + " wrong");
        if (wrong != 0 || checked == 0) {
            System.exit(1);
        }
    }
}
