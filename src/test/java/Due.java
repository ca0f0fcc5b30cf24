import java.util.function.Supplier;
import java.util.function.ToIntFunction;

/** Compares answers with what is due, and ends a test's run with exit code 1 if one was wrong. */
final class Due {
    private final String about;
    private String sentence = "";
    private int checked;
    private int wrong;

    Due(String about) {
        this.about = about;
    }

    /** The sentence of the document that the next answers hang on; SentencesTest looks it up there. */
    void says(String words) {
        sentence = " [" + words + "]";
    }

    void is(String call, long got, long want) {
        checked++;
        if (got != want) {
            wrong++;
            System.out.println(about + sentence + ": " + call + " answered " + got + ", due is " + want);
        }
    }

    /** A call answers so and leaves everything as it is in an object with the same past but without the call. */
    void unchanged(String call, Supplier<PlateHire> past, ToIntFunction<PlateHire> made, int want) {
        for (int view = 0; view < Views.COUNT; view++) {
            PlateHire x = past.get();
            is(call, made.applyAsInt(x), want);
            same("behind " + call, x, past.get(), view);
        }
    }

    /** Two objects look the same in a view; what is looked at may be used up by it. */
    void same(String name, PlateHire x, PlateHire y, int view) {
        int[] seen = Views.of(x, view);
        int[] wanted = Views.of(y, view);
        is(name + ", how much is seen in view " + view, seen.length, wanted.length);
        for (int i = 0; i < Math.min(seen.length, wanted.length); i++) {
            is(name + ", look " + i + " of view " + view, seen[i], wanted[i]);
        }
    }

    /** The nearest numbers outside a .. b, and the farthest. */
    static int[] beyond(int a, int b) {
        return new int[] {Integer.MIN_VALUE, a - 1, b + 1, Integer.MAX_VALUE};
    }

    void end() {
        System.out.println(about + ": " + checked + " answers, " + wrong + " wrong");
        if (wrong != 0 || checked == 0) {
            System.exit(1);
        }
    }
}
