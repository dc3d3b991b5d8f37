import java.util.NoSuchElementException;

/** Counts the answers that are not as due; a test ends with exit code 1 if there was one. */
final class Due {
    private static int wrong = 0;
    private static int asked = 0;

    private Due() {
    }

    static void is(String what, long got, long want) {
        asked++;
        if (got != want) {
            wrong++;
            System.out.println(what + " answered " + got + ", due is " + want);
        }
    }

    static void is(String what, boolean got, boolean want) {
        is(what, got ? 1 : 0, want ? 1 : 0);
    }

    static void noCorner(CoastWatch w, int one, int other, int i, int what) {
        boolean thrown = false;
        try {
            w.corner(one, other, i, what);
        } catch (NoSuchElementException e) {
            thrown = true;
        }
        is("no corner " + one + ", " + other + ", " + i + ", " + what, thrown, true);
    }

    static void noBox(CoastWatch w, int one, int other, int what) {
        boolean thrown = false;
        try {
            w.box(one, other, what);
        } catch (NoSuchElementException e) {
            thrown = true;
        }
        is("no box " + one + ", " + other + ", " + what, thrown, true);
    }

    static void corner(CoastWatch w, int one, int other, int i, long... parts) {
        for (int what = 0; what < 4; what++) {
            is("corner " + one + ", " + other + ", " + i + ", " + what, w.corner(one, other, i, what), parts[what]);
        }
    }

    static void box(CoastWatch w, int one, int other, int... sides) {
        for (int what = 0; what < 4; what++) {
            is("box " + one + ", " + other + ", " + what, w.box(one, other, what), sides[what]);
        }
    }

    static void counts(CoastWatch w, String when, int... due) {
        for (int what = 0; what < due.length; what++) {
            is(when + ": count " + what, w.count(what), due[what]);
        }
    }

    static void end() {
        System.out.println(asked + " answers looked at, " + wrong + " not as due");
        if (wrong != 0) {
            System.exit(1);
        }
    }
}
