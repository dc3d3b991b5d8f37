import java.util.NoSuchElementException;

/** Counts the answers that are not as due; a test ends with exit code 1 if there was one. */
final class Due {
    private static final int REFUSED = -1;
    private static int wrong = 0;
    private static int asked = 0;
    private static int sentences = 0;
    private static String sentence = "";

    /** A call with one of its numbers left open, each time on an object of its own. */
    interface OneNumber {
        long answer(int value);
    }

    private Due() {
    }

    /** What follows looks at this sentence of the document, up to the next one. */
    static void sentence(String words) {
        sentences++;
        sentence = "\"" + words + "\" ";
    }

    static void is(String what, long got, long want) {
        asked++;
        if (got != want) {
            wrong++;
            System.out.println(sentence + what + " answered " + got + ", due is " + want);
        }
    }

    static void is(String what, boolean got, boolean want) {
        is(what, got ? 1 : 0, want ? 1 : 0);
    }

    /** Just outside, far outside, and outside by what a short or an int would wrap to within. */
    static void refusedOutside(String what, int least, int greatest, long refused, OneNumber call) {
        int[] tried = {least - 1, greatest + 1, least - 65536, greatest + 65536, least ^ Integer.MIN_VALUE,
            greatest ^ Integer.MIN_VALUE, Integer.MIN_VALUE, Integer.MIN_VALUE + 1, Integer.MAX_VALUE - 1,
            Integer.MAX_VALUE};
        for (int value : tried) {
            if (value < least || value > greatest) {
                is(what + " " + value, call.answer(value), refused);
            }
        }
    }

    /** The least and the greatest are taken, what is outside is refused. */
    static void bounds(String what, int least, int greatest, long taken, OneNumber call) {
        is(what + " " + least, call.answer(least), taken);
        is(what + " " + greatest, call.answer(greatest), taken);
        refusedOutside(what, least, greatest, REFUSED, call);
    }

    /** Likewise for a call that answers true or false. */
    static void boundsOfYes(String what, int least, int greatest, OneNumber call) {
        is(what + " " + least, call.answer(least), 1);
        is(what + " " + greatest, call.answer(greatest), 1);
        refusedOutside(what, least, greatest, 0, call);
    }

    static long yes(boolean answer) {
        return answer ? 1 : 0;
    }

    static void noCorner(CoastWatch w, int one, int other, int i, int what) {
        boolean thrown = false;
        try {
            w.corner(one, other, i, what);
        } catch (NoSuchElementException e) {
            thrown = true;
        }
        is("no corner " + one + ", " + other + ", " + i + ", " + what, thrown, true);
    }

    static void noBox(CoastWatch w, int one, int other, int what) {
        boolean thrown = false;
        try {
            w.box(one, other, what);
        } catch (NoSuchElementException e) {
            thrown = true;
        }
        is("no box " + one + ", " + other + ", " + what, thrown, true);
    }

    static void corner(CoastWatch w, int one, int other, int i, long... parts) {
        for (int what = 0; what < 4; what++) {
            is("corner " + one + ", " + other + ", " + i + ", " + what, w.corner(one, other, i, what), parts[what]);
        }
    }

    static void box(CoastWatch w, int one, int other, int... sides) {
        for (int what = 0; what < 4; what++) {
            is("box " + one + ", " + other + ", " + what, w.box(one, other, what), sides[what]);
        }
    }

    static void counts(CoastWatch w, String when, int... due) {
        for (int what = 0; what < due.length; what++) {
            is(when + ": count " + what, w.count(what), due[what]);
        }
    }

    static void end() {
        String of = sentences > 0 ? " on " + sentences + " sentences" : "";
        System.out.println(asked + " answers looked at" + of + ", " + wrong + " not as due");
        if (wrong != 0) {
            System.exit(1);
        }
    }
}
