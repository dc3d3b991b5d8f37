/** Each sentence that names a boundary in "TRACKS" and in promises 13 to 15. */
public final class TracksBoundsTest {
    public static void main(String[] args) {
        noShape();
        plottedAlready();
        sixtyPlots();
        nextNumber();
        ofAnEarlierMinute();
        ofALaterMinute();
        latestOfTheTrack();
        beginsATrack();
        nearEnoughAlongX();
        nearEnoughAlongY();
        nearEnoughAslant();
        sidesAndInsides();
        boxNotShape();
        nearest();
        leastNumber();
        noWrapOfDistances();
        noWrapOfWays();
        speedBounds();
        speedAtFirst();
        speedFromNowOn();
        trackOfOthers();
        Due.end();
    }

    private static CoastWatch coast(int... places) {
        CoastWatch w = new CoastWatch();
        for (int i = 0; i < places.length; i += 2) {
            w.post(places[i], places[i + 1], 1);
        }
        return w;
    }

    /** The stretch of a row from a post to one on its right: its box is just that. */
    private static int row(CoastWatch w, int left, int right) {
        int one = w.sight(left, 1, 0, 1, 1);
        return w.plotted(one, w.sight(right, -1, 0, -1, -1));
    }

    /** The stretch of a column from a post to one above it. */
    private static int column(CoastWatch w, int bottom, int top) {
        int one = w.sight(bottom, 0, 1, -1, 1);
        return w.plotted(one, w.sight(top, 0, -1, 1, -1));
    }

    private static void noShape() {
        Due.sentence("Their SHAPE is PLOTTED: its TRACK. NONE: it is none");
        CoastWatch w = coast(0, 0, 10, 0, 0, 0);
        w.sight(0, 1, 0, 1, 1);
        w.sight(1, 1, 0, 1, 1);
        w.sight(1, 1, -2, 1, -1);
        w.sight(2, 1, 0, 1, 1);
        w.sight(0, 0, 1, -1, 1);
        Due.is("endless", w.plotted(0, 1), -1);
        Due.is("no points", w.plotted(4, 2), -1);
        Due.is("one place", w.plotted(0, 3), -1);
        Due.is("itself", w.plotted(0, 0), -1);
        Due.is("no such one", w.plotted(-1, 0), -1);
        Due.is("no such other", w.plotted(0, 5), -1);
        Due.is("far out", w.plotted(Integer.MAX_VALUE, Integer.MIN_VALUE), -1);
        w.step(1);
        w.sight(1, -1, 0, -1, -1);
        Due.is("different minutes", w.plotted(0, 5), -1);
        Due.is("none was", w.count(4), 0);
        Due.is("no track", w.count(5), 0);
        Due.is("nor anything of it", w.track(0, 0), -1);
    }

    private static void plottedAlready() {
        Due.sentence("was PLOTTED already (either way round)");
        CoastWatch w = coast(0, 0, 10, 0);
        w.sight(0, 1, 0, 1, 1);
        w.sight(1, -1, 0, -1, -1);
        w.sight(0, 1, 0, 1, 1);
        w.sight(1, -1, 0, -1, -1);
        Due.is("first", w.plotted(0, 1), 0);
        Due.is("again", w.plotted(0, 1), -1);
        Due.is("the other way round", w.plotted(1, 0), -1);
        Due.is("one of them with another", w.plotted(0, 3), 1);
        Due.is("the other of them with another", w.plotted(1, 2), 2);
        Due.is("both others, the other way round", w.plotted(3, 2), 3);
        Due.is("again", w.plotted(3, 2), -1);
        Due.is("the other way round", w.plotted(2, 3), -1);
        w.step(5);
        Due.is("later, too", w.plotted(0, 1), -1);
        Due.is("four", w.count(4), 4);
    }

    private static void sixtyPlots() {
        Due.sentence("NONE: or 60 were");
        CoastWatch w = coast(0, 0, 10, 0);
        for (int i = 0; i < 8; i++) {
            w.sight(0, 1, 0, 1, 1);
            w.sight(1, -1, 0, -1, -1);
        }
        for (int i = 0; i < 60; i++) {
            Due.is("of one minute, so each begins a track", w.plotted(2 * (i / 8), 2 * (i % 8) + 1), i);
        }
        Due.is("the next", w.plotted(14, 9), -1);
        w.step(1);
        w.sight(0, 1, 0, 1, 1);
        w.sight(1, -1, 0, -1, -1);
        Due.is("one that would join, too", w.plotted(16, 17), -1);
        Due.is("60", w.count(4), 60);
        Due.is("60 tracks", w.count(5), 60);
        Due.is("the last one", w.track(59, 0), 59);
        Due.is("no other", w.track(60, 0), -1);
    }

    private static void nextNumber() {
        Due.sentence("a SHAPE that is PLOTTED gets the next number");
        CoastWatch w = coast(0, 0, 10, 0);
        row(w, 0, 1);
        w.plotted(0, 1);
        w.plotted(0, 0);
        w.step(1);
        row(w, 0, 1);
        Due.is("refused ones take none", w.count(4), 2);
        Due.is("the second", w.track(1, 3), 1);
        Due.is("of the first track", w.track(1, 0), 0);
    }

    private static void ofAnEarlierMinute() {
        Due.sentence("the TRACKS whose latest PLOT is of an earlier MINUTE");
        CoastWatch w = coast(0, 0, 10, 0);
        Due.is("first", row(w, 0, 1), 0);
        Due.is("of one minute", row(w, 0, 1), 1);
        w.step(1);
        Due.is("a minute later", row(w, 0, 1), 0);
        Due.is("0 has one of this minute now", row(w, 0, 1), 1);
        Due.is("so has 1", row(w, 0, 1), 2);
    }

    private static void ofALaterMinute() {
        Due.sentence("latest PLOT is of an earlier MINUTE (told late)");
        CoastWatch w = coast(0, 0, 10, 0);
        w.sight(0, 1, 0, 1, 1);
        w.sight(1, -1, 0, -1, -1);
        w.step(3);
        Due.is("of minute 3", row(w, 0, 1), 0);
        Due.is("of minute 0, plotted behind it", w.plotted(0, 1), 1);
        Due.is("its minute is 0", w.track(1, 3), 0);
    }

    private static void latestOfTheTrack() {
        Due.sentence("whose latest PLOT (not an earlier one of it)");
        CoastWatch w = coast(0, 0, 10, 0, 110, 0, 120, 0);
        Due.is("0 .. 10", row(w, 0, 1), 0);
        w.step(10);
        Due.is("110 .. 120: 100 off", row(w, 2, 3), 0);
        w.step(9);
        Due.is("0 .. 10: 90 let, 100 off from the latest", row(w, 0, 1), 1);
        w.step(1);
        Due.is("110 .. 120 is where 0 is", row(w, 2, 3), 0);
    }

    private static void beginsATrack() {
        Due.sentence("else it begins a TRACK");
        CoastWatch w = coast(0, 0, 10, 0, 1000, 0, 1010, 0);
        Due.is("the first", row(w, 0, 1), 0);
        w.step(1);
        Due.is("too far", row(w, 2, 3), 1);
        Due.is("two tracks", w.count(5), 2);
        Due.is("two plots", w.count(4), 2);
        w.step(1);
        Due.is("joins", row(w, 2, 3), 1);
        Due.is("still two", w.count(5), 2);
    }

    private static void nearEnoughAlongX() {
        Due.sentence("Near enough: at most the square of (SPEED times the MINUTES between)");
        for (int x = 29; x <= 31; x++) {
            CoastWatch right = coast(0, 0, 10, 0, 10 + x, 0, 20 + x, 0);
            row(right, 0, 1);
            right.step(3);
            Due.is(x + " to the right, 30 let", row(right, 2, 3), x <= 30 ? 0 : 1);
            CoastWatch left = coast(0, 0, 10, 0, 10 + x, 0, 20 + x, 0);
            row(left, 2, 3);
            left.step(3);
            Due.is(x + " to the left, 30 let", row(left, 0, 1), x <= 30 ? 0 : 1);
        }
    }

    private static void nearEnoughAlongY() {
        Due.sentence("Near enough: at most the square of (SPEED times the MINUTES between) (along y)");
        for (int y = 29; y <= 31; y++) {
            CoastWatch up = coast(0, 0, 0, 10, 0, 10 + y, 0, 20 + y);
            column(up, 0, 1);
            up.step(3);
            Due.is(y + " upwards, 30 let", column(up, 2, 3), y <= 30 ? 0 : 1);
            CoastWatch down = coast(0, 0, 0, 10, 0, 10 + y, 0, 20 + y);
            column(down, 2, 3);
            down.step(3);
            Due.is(y + " downwards, 30 let", column(down, 0, 1), y <= 30 ? 0 : 1);
        }
    }

    private static void nearEnoughAslant() {
        Due.sentence("the square of the distance of both BOXES");
        int[][] off = {{6, 8}, {8, 6}, {10, 0}, {0, 10}, {7, 7}, {7, 8}, {6, 9}, {10, 1}, {1, 10}};
        for (int[] d : off) {
            CoastWatch w = coast(100, 100, 110, 100, 110 + d[0], 100 + d[1], 120 + d[0], 100 + d[1]);
            row(w, 0, 1);
            w.step(1);
            boolean near = d[0] * d[0] + d[1] * d[1] <= 100;
            Due.is(d[0] + ", " + d[1] + " off, 10 let", row(w, 2, 3), near ? 0 : 1);
        }
    }

    private static void sidesAndInsides() {
        Due.sentence("the distance of both BOXES (their sides and insides)");
        CoastWatch w = coast(100, 100, 200, 100, 150, 50, 150, 150, 200, 200);
        w.speed(1);
        // A box from 100, 100 to 200, 200.
        w.sight(0, 1, 0, 1, 1);
        w.sight(1, 0, 1, -1, 0);
        Due.is("a triangle", w.plotted(0, 1), 0);
        Due.box(w, 0, 1, 100, 100, 200, 200);
        w.step(1);
        Due.is("across its lower side", column(w, 2, 3), 0);
        CoastWatch inside = coast(100, 100, 200, 100, 110, 180, 120, 180, 200, 210, 210, 210);
        inside.speed(1);
        inside.sight(0, 1, 0, 1, 1);
        inside.sight(1, 0, 1, -1, 0);
        inside.plotted(0, 1);
        inside.step(1);
        Due.is("inside the box, if not inside the shape", row(inside, 2, 3), 0);
        inside.step(1);
        Due.is("back, round it", around(inside), 0);
        inside.step(9);
        Due.is("10 above a side, 9 let", row(inside, 4, 5), 1);
    }

    private static int around(CoastWatch w) {
        int one = w.sight(0, 1, 0, 1, 1);
        return w.plotted(one, w.sight(1, 0, 1, -1, 0));
    }

    private static void boxNotShape() {
        Due.sentence("the distance of both BOXES (with whole sides, not of the SHAPES)");
        // The shape ends at 4/3, its box at 2.
        for (int x = 3; x <= 4; x++) {
            CoastWatch w = coast(0, 0, 2, 0, x, 1, 9, 1);
            w.speed(1);
            w.sight(0, 1, 1, 0, 1);
            w.sight(1, -1, 2, -2, 1);
            Due.is("begins", w.plotted(0, 1), 0);
            Due.corner(w, 0, 1, 3, 4, 3, 4, 3);
            Due.box(w, 0, 1, 0, 0, 2, 4);
            w.step(1);
            Due.is((x - 2) + " from the box, 1 let", row(w, 2, 3), x - 3);
        }
    }

    private static void nearest() {
        Due.sentence("the one whose BOX is nearest");
        for (int x = 39; x <= 41; x++) {
            CoastWatch w = coast(0, 0, 20, 0, 60, 0, 80, 0, x, 0, x + 1, 0);
            w.step(1);
            Due.is("0 .. 20", row(w, 0, 1), 0);
            Due.is("60 .. 80", row(w, 2, 3), 1);
            w.step(2);
            Due.is(x + ", " + (x + 1), row(w, 4, 5), x == 39 ? 0 : 1);
        }
        // How much the speed lets does not matter beyond near enough.
        for (int x = 35; x <= 45; x += 10) {
            CoastWatch old = coast(0, 0, 20, 0, 60, 0, 80, 0, x, 0, x + 1, 0);
            old.speed(1);
            Due.is("60 .. 80", row(old, 2, 3), 0);
            old.step(39);
            Due.is("0 .. 20: 40 off", row(old, 0, 1), 1);
            old.speed(100);
            old.step(2);
            Due.is(x + " may join both", row(old, 4, 5), x == 35 ? 1 : 0);
        }
    }

    private static void leastNumber() {
        Due.sentence("(of several the least number)");
        CoastWatch w = coast(0, 0, 20, 0, 60, 0, 80, 0, 40, 0, 40, 5);
        Due.is("0 .. 20", row(w, 0, 1), 0);
        Due.is("60 .. 80", row(w, 2, 3), 1);
        w.step(2);
        Due.is("20 from both", column(w, 4, 5), 0);
        CoastWatch turned = coast(0, 0, 20, 0, 60, 0, 80, 0, 40, 0, 40, 5);
        Due.is("60 .. 80", row(turned, 2, 3), 0);
        Due.is("0 .. 20", row(turned, 0, 1), 1);
        turned.step(2);
        Due.is("20 from both", column(turned, 4, 5), 0);
        CoastWatch within = coast(0, 0, 20, 0, 10, 0, 30, 0, 5, 0, 25, 0);
        row(within, 0, 1);
        row(within, 2, 3);
        within.step(1);
        Due.is("0 from both", row(within, 4, 5), 0);
        Due.is("0 from the other", row(within, 4, 5), 1);
    }

    /** A column at x 264, and later a shape whose box begins at x 65,800 beside it: 65,536 off. */
    private static int farOff(int speed, int minutes) {
        CoastWatch w = coast(264, 0, 264, 2000, 0, 0, 0, 84);
        w.speed(speed);
        Due.is("the column", column(w, 0, 1), 0);
        w.step(minutes);
        int one = w.sight(2, 48, 1, 47, 1);
        int other = w.sight(3, 50, 1, 49, 1);
        Due.is("least x", w.box(one, other, 0), 65800);
        Due.is("least y", w.box(one, other, 1), 1400);
        return w.plotted(one, other);
    }

    private static void noWrapOfDistances() {
        Due.sentence("the square of the distance of both BOXES (as far as the SPANS reach)");
        Due.is("65,536 off, 1 let", farOff(1, 1), 1);
        Due.is("65,536 off, 46,300 let", farOff(100, 463), 1);
        Due.is("65,536 off, 46,400 let", farOff(100, 464), 1);
    }

    private static void noWrapOfWays() {
        Due.sentence("at most the square of (SPEED times the MINUTES between) (both great)");
        Due.is("65,536 off, 65,536 let", farOff(64, 1024), 0);
        Due.is("65,536 off, 65,472 let", farOff(64, 1023), 1);
        Due.is("65,536 off, 300,000 let", farOff(100, 3000), 0);
    }

    private static void speedBounds() {
        Due.sentence("SPEED (1 .. 100). False: out of bounds.");
        Due.boundsOfYes("speed", 1, 100, v -> Due.yes(new CoastWatch().speed(v)));
        for (int told : new int[] {0, 101, -1, Integer.MIN_VALUE, Integer.MAX_VALUE}) {
            CoastWatch w = coast(0, 0, 10, 0, 20, 0, 30, 0);
            w.speed(5);
            w.speed(told);
            row(w, 0, 1);
            w.step(1);
            Due.is("refused: 5 still, 10 off", row(w, 2, 3), 1);
            w.step(2);
            Due.is("refused: 5 still, 10 off", row(w, 0, 1), 0);
        }
    }

    private static void speedAtFirst() {
        Due.sentence("SPEED, hundreds of metres a MINUTE, 10 at first");
        CoastWatch near = coast(0, 0, 10, 0, 20, 0, 30, 0);
        row(near, 0, 1);
        near.step(1);
        Due.is("10 off", row(near, 2, 3), 0);
        CoastWatch far = coast(0, 0, 10, 0, 21, 0, 30, 0);
        row(far, 0, 1);
        far.step(1);
        Due.is("11 off", row(far, 2, 3), 1);
    }

    private static void speedFromNowOn() {
        Due.sentence("SPEED for what is PLOTTED from now on");
        CoastWatch w = coast(0, 0, 10, 0, 110, 0, 120, 0);
        row(w, 0, 1);
        w.step(1);
        w.sight(2, 1, 0, 1, 1);
        w.sight(3, -1, 0, -1, -1);
        w.sight(2, 1, 0, 1, 1);
        w.speed(99);
        Due.is("100 off, 99 let", w.plotted(2, 3), 1);
        w.speed(100);
        Due.is("what was plotted stays", w.track(1, 0), 1);
        Due.is("what was sighted ahead of it is plotted by it", w.plotted(4, 3), 0);
        Due.is("two tracks", w.count(5), 2);
    }

    private static void trackOfOthers() {
        Due.sentence("Of PLOT p: 0 .. 3. NONE without, or for others.");
        Due.refusedOutside("p of none", 0, -1, -1, v -> coast(0, 0).track(v, 0));
        Due.refusedOutside("p of one", 0, 0, -1, v -> onePlot().track(v, 0));
        Due.refusedOutside("what", 0, 3, -1, v -> onePlot().track(0, v));
        CoastWatch w = onePlot();
        Due.is("its track", w.track(0, 0), 0);
        Due.is("the one as told", w.track(0, 1), 1);
        Due.is("the other as told", w.track(0, 2), 0);
        Due.is("its minute", w.track(0, 3), 9);
    }

    private static CoastWatch onePlot() {
        CoastWatch w = coast(0, 0, 10, 0);
        w.step(9);
        w.sight(0, 1, 0, 1, 1);
        w.sight(1, -1, 0, -1, -1);
        w.step(9);
        w.plotted(1, 0);
        return w;
    }
}
