import java.util.NoSuchElementException;

/** Each sentence that names a boundary in "Terms" 2 (but for tracks) and in promises 8 to 12. */
public final class PlotsBoundsTest {
    private static final long THROWN = Long.MIN_VALUE;

    public static void main(String[] args) {
        edgeNumbers();
        notBothZero();
        turnedToTheLeft();
        turnedByAHair();
        roundTheCompass();
        sightNoSuchPost();
        hundredSightings();
        minuteNow();
        plotNoSuchOnes();
        plotDifferentMinutes();
        plotOnePlace();
        onAnEdge();
        thePlaceItself();
        missedByAHair();
        beyondTheBounds();
        endless();
        endlessByAHair();
        cornersNone();
        noMiddleOfOthers();
        inOrder();
        lowestTerms();
        lowerOnesAboveZero();
        noSuchCorner();
        cornerOfNoShape();
        wholeSides();
        noSuchSide();
        boxOfNoShape();
        askedInAnyOrder();
        Due.end();
    }

    private static CoastWatch onePost() {
        CoastWatch w = new CoastWatch();
        w.post(1000, 1000, 5);
        return w;
    }

    private static CoastWatch posts(int x, int y, int x2, int y2) {
        CoastWatch w = new CoastWatch();
        w.post(x, y, 5);
        w.post(x2, y2, 5);
        return w;
    }

    /** Both are seen between 2, 1 and 1, 2, and between -1, 2 and -2, 1: a shape with four corners. */
    private static CoastWatch crossed() {
        CoastWatch w = posts(1000, 1000, 1100, 1000);
        w.sight(0, 2, 1, 1, 2);
        w.sight(1, -1, 2, -2, 1);
        return w;
    }

    private static long corner(CoastWatch w, int i, int what) {
        try {
            return w.corner(0, 1, i, what);
        } catch (NoSuchElementException e) {
            return THROWN;
        }
    }

    private static long box(CoastWatch w, int what) {
        try {
            return w.box(0, 1, what);
        } catch (NoSuchElementException e) {
            return THROWN;
        }
    }

    private static void edgeNumbers() {
        Due.sentence("directions (each of two numbers -50 .. 50)");
        Due.bounds("a", -50, 50, 0, v -> onePost().sight(0, v, -50, 50, 0));
        Due.bounds("b", -50, 50, 0, v -> onePost().sight(0, 50, v, 0, 50));
        Due.bounds("c", -50, 50, 0, v -> onePost().sight(0, 50, 0, v, 50));
        Due.bounds("d", -50, 50, 0, v -> onePost().sight(0, 0, -50, 50, v));
    }

    private static void notBothZero() {
        Due.sentence("not both 0");
        CoastWatch w = onePost();
        Due.is("the first", w.sight(0, 0, 0, 1, 0), -1);
        Due.is("the second", w.sight(0, 1, 0, 0, 0), -1);
        Due.is("both", w.sight(0, 0, 0, 0, 0), -1);
        Due.is("one of two is fine", w.sight(0, 0, -1, 1, 0), 0);
        Due.is("one made", w.count(3), 1);
    }

    private static void turnedToTheLeft() {
        Due.sentence("turned to the left from the first by more than nothing and less than half a round");
        for (int i = 0; i < 625; i++) {
            int a = i % 5 - 2;
            int b = i / 5 % 5 - 2;
            int c = i / 25 % 5 - 2;
            int d = i / 125 - 2;
            boolean edges = (a != 0 || b != 0) && (c != 0 || d != 0);
            double turn = Math.atan2(d, c) - Math.atan2(b, a);
            turn += turn < -0.001 ? 2 * Math.PI : 0;
            boolean left = turn > 0.001 && turn < Math.PI - 0.001;
            Due.is("sight " + a + ", " + b + ", " + c + ", " + d, onePost().sight(0, a, b, c, d), edges && left ? 0 : -1);
        }
    }

    private static void turnedByAHair() {
        Due.sentence("by more than nothing and less than half a round (a hair more, a hair less)");
        Due.is("a hair", onePost().sight(0, 49, 48, 50, 49), 0);
        Due.is("a hair to the right", onePost().sight(0, 50, 49, 49, 48), -1);
        Due.is("nothing", onePost().sight(0, 50, 48, 25, 24), -1);
        Due.is("nothing", onePost().sight(0, -1, 0, -50, 0), -1);
        Due.is("a hair less than half a round", onePost().sight(0, 50, 49, -49, -48), 0);
        Due.is("half a round", onePost().sight(0, 50, 48, -25, -24), -1);
        Due.is("half a round", onePost().sight(0, 0, -50, 0, 1), -1);
        Due.is("a hair more", onePost().sight(0, 49, 48, -50, -49), -1);
    }

    private static void roundTheCompass() {
        Due.sentence("all points on either EDGE or between them (over each quarter's end)");
        // The second post stands this way from the first; a span a little to both sides of it has
        // it and, as it looks away from there, is endless with it; the span turned about has not.
        int[][] ways = {{1, 0}, {1, 1}, {0, 1}, {-1, 1}, {-1, 0}, {-1, -1}, {0, -1}, {1, -1}};
        for (int[] way : ways) {
            int x = way[0];
            int y = way[1];
            CoastWatch w = posts(1000, 1000, 1000 + 100 * x, 1000 + 100 * y);
            int ax = 5 * x + y;
            int ay = 5 * y - x;
            int cx = 5 * x - y;
            int cy = 5 * y + x;
            w.sight(0, ax, ay, cx, cy);
            w.sight(1, ax, ay, cx, cy);
            w.sight(0, -ax, -ay, -cx, -cy);
            w.sight(1, -ax, -ay, -cx, -cy);
            String where = "towards " + x + ", " + y + ": ";
            Due.is(where + "one behind the other", w.plot(0, 1), 2);
            Due.is(where + "back to back", w.plot(2, 1), 0);
            Due.is(where + "face to face", w.plot(0, 3), 1);
            Due.is(where + "face to face", w.corners(0, 3), 4);
            Due.is(where + "both turned about", w.plot(2, 3), 2);
        }
    }

    private static void sightNoSuchPost() {
        Due.sentence("A SIGHTING: its number. NONE: no such POST");
        Due.refusedOutside("of one", 0, 0, -1, v -> onePost().sight(v, 1, 0, 0, 1));
        Due.is("of none", new CoastWatch().sight(0, 1, 0, 0, 1), -1);
        CoastWatch six = new CoastWatch();
        for (int p = 0; p < 6; p++) {
            six.post(p, p, 1);
        }
        Due.is("the last of six", six.sight(5, 1, 0, 0, 1), 0);
        Due.is("no seventh", six.sight(6, 1, 0, 0, 1), -1);
    }

    private static void hundredSightings() {
        Due.sentence("A SIGHTING: its number. NONE: there are 100");
        CoastWatch w = posts(0, 0, 1000, 0);
        for (int s = 0; s < 100; s++) {
            Due.is("sighting", w.sight(s % 2, 1, 1, -1, 1), s);
        }
        Due.is("the next", w.sight(0, 1, 1, -1, 1), -1);
        w.step(1);
        Due.is("in a later minute, too", w.sight(1, 1, 1, -1, 1), -1);
        Due.is("100", w.count(3), 100);
        Due.is("the last ones meet", w.plot(99, 98), 2);
        Due.is("no other", w.plot(99, 100), -1);
    }

    private static void minuteNow() {
        Due.sentence("A SIGHTING in the MINUTE NOW");
        CoastWatch w = posts(0, 0, 10, 0);
        for (int i = 0; i < 6; i++) {
            w.step(3000);
        }
        w.step(2000);
        w.sight(0, 1, 0, 1, 1);
        w.sight(1, -1, 0, -1, -1);
        Due.is("in the last minute", w.plotted(0, 1), 0);
        Due.is("20,000", w.track(0, 3), 20000);
        CoastWatch first = posts(0, 0, 10, 0);
        first.sight(0, 1, 0, 1, 1);
        first.sight(1, -1, 0, -1, -1);
        first.step(1);
        first.plotted(0, 1);
        Due.is("in minute 0", first.track(0, 3), 0);
    }

    private static void plotNoSuchOnes() {
        Due.sentence("Of two SIGHTINGS: NONE (-1): no such ones");
        Due.refusedOutside("the one", 0, 1, -1, v -> crossed().plot(v, 1));
        Due.refusedOutside("the other", 0, 1, -1, v -> crossed().plot(0, v));
        Due.refusedOutside("both", 0, 1, -1, v -> crossed().plot(v, v));
        Due.is("there are both", crossed().plot(0, 1), 1);
    }

    private static void plotDifferentMinutes() {
        Due.sentence("NONE (-1): of different MINUTES");
        CoastWatch w = crossed();
        w.step(0);
        w.sight(0, 2, 1, 1, 2);
        Due.is("still one minute", w.plot(2, 1), 1);
        w.step(1);
        w.sight(0, 2, 1, 1, 2);
        w.sight(1, -1, 2, -2, 1);
        Due.is("a minute later", w.plot(3, 1), -1);
        Due.is("a minute earlier", w.plot(0, 4), -1);
        Due.is("both in the later one", w.plot(3, 4), 1);
        Due.is("both in the earlier one", w.plot(0, 1), 1);
    }

    private static void plotOnePlace() {
        Due.sentence("NONE (-1): from one PLACE");
        CoastWatch w = posts(1000, 1000, 1000, 1000);
        w.post(1000, 1001, 5);
        w.post(1001, 1000, 5);
        w.sight(0, 1, 0, 0, 1);
        w.sight(1, -1, 0, 0, -1);
        w.sight(2, 1, 0, 0, 1);
        w.sight(3, 1, 0, 0, 1);
        w.sight(0, 0, 1, -1, 0);
        Due.is("itself", w.plot(0, 0), -1);
        Due.is("one post", w.plot(0, 4), -1);
        Due.is("two posts", w.plot(0, 1), -1);
        Due.is("another y is another place", w.plot(0, 2), 2);
        Due.is("another x is another place", w.plot(3, 0), 2);
    }

    private static void onAnEdge() {
        Due.sentence("all points on either EDGE");
        CoastWatch w = posts(1000, 1000, 1010, 1000);
        w.sight(0, 1, 0, 1, 1);
        w.sight(1, -1, 0, -1, -1);
        Due.is("first edge on first edge", w.corners(0, 1), 2);
        w.sight(0, 1, -1, 1, 0);
        w.sight(1, -1, 1, -1, 0);
        Due.is("second edge on second edge", w.corners(2, 3), 2);
        Due.is("first on second: one side", w.corners(0, 3), 3);
        Due.is("first on second: the other side", w.corners(2, 1), 3);
        Due.corner(w, 0, 1, 0, 1000, 1, 1000, 1);
        Due.corner(w, 2, 3, 1, 1010, 1, 1000, 1);
    }

    private static void thePlaceItself() {
        Due.sentence("and the PLACE itself");
        CoastWatch w = posts(1000, 1000, 1010, 1010);
        w.sight(0, 1, 1, 0, 1);
        w.sight(1, 1, -1, 1, 0);
        Due.is("its place is on the other's first edge", w.plot(0, 1), 1);
        Due.is("and that is all", w.corners(0, 1), 1);
        Due.corner(w, 0, 1, 0, 1010, 1, 1010, 1);
        w.sight(0, 1, 0, 1, 1);
        w.sight(1, 0, 1, -1, 1);
        Due.is("its place is on the other's second edge", w.corners(2, 3), 1);
        Due.corner(w, 3, 2, 0, 1010, 1, 1010, 1);
        Due.box(w, 3, 2, 1010, 1010, 1010, 1010);
    }

    private static void missedByAHair() {
        Due.sentence("It is NONE, if there are none");
        CoastWatch w = posts(1000, 1000, 1010, 1011);
        w.sight(0, 1, 0, 1, 1);
        w.sight(1, 0, 1, -1, 1);
        Due.is("a place above the edge", w.plot(0, 1), 0);
        Due.is("either way round", w.plot(1, 0), 0);
        // The edge towards 50, 49 passes the place 49, 48 by 1 / 50.
        CoastWatch hair = posts(0, 0, 49, 48);
        hair.sight(0, 50, 49, 0, 1);
        hair.sight(1, 1, -1, 1, 0);
        Due.is("by a hair", hair.plot(0, 1), 0);
        hair.sight(0, 49, 48, 0, 1);
        Due.is("not missed", hair.plot(2, 1), 1);
        Due.is("one point", hair.corners(2, 1), 1);
    }

    private static void beyondTheBounds() {
        Due.sentence("(not PLACES alone, and beyond their bounds, too)");
        CoastWatch w = posts(0, 0, 0, 10);
        w.sight(0, -1, 1, -2, 1);
        w.sight(1, -2, -1, -1, -1);
        Due.is("x below 0", w.corners(0, 1), 4);
        Due.corner(w, 0, 1, 0, -10, 1, 5, 1);
        Due.corner(w, 0, 1, 1, -20, 3, 10, 3);
        Due.corner(w, 0, 1, 2, -20, 3, 20, 3);
        Due.corner(w, 0, 1, 3, -5, 1, 5, 1);
        Due.box(w, 0, 1, -10, 3, -5, 7);
        CoastWatch above = posts(1990, 2000, 2000, 2000);
        above.sight(0, 2, 1, 1, 2);
        above.sight(1, -1, 2, -2, 1);
        Due.is("y above 2,000", above.corners(0, 1), 4);
        Due.corner(above, 0, 1, 0, 1992, 1, 2004, 1);
        Due.corner(above, 0, 1, 1, 1995, 1, 4005, 2);
        Due.corner(above, 0, 1, 2, 1995, 1, 2010, 1);
        Due.corner(above, 0, 1, 3, 1998, 1, 2004, 1);
        Due.box(above, 0, 1, 1992, 2002, 1998, 2010);
    }

    private static void endless() {
        Due.sentence("ENDLESS, if there are points of it as far away as wished");
        CoastWatch w = posts(1000, 1000, 1010, 1000);
        w.sight(0, 1, 0, 1, 1);
        w.sight(1, 1, -1, 1, 0);
        Due.is("a single ray", w.plot(0, 1), 2);
        w.sight(1, -1, 0, 1, -1);
        Due.is("that way, but to the post alone", w.plot(0, 2), 1);
        w.sight(1, 1, 0, 0, 1);
        Due.is("a whole span within", w.plot(3, 0), 2);
        w.sight(0, 0, 1, -1, 0);
        w.sight(1, -1, 1, 0, -1);
        Due.is("parallel edges beside each other", w.plot(3, 4), 0);
        Due.is("between the parallel ones", w.plot(4, 5), 2);
    }

    private static void endlessByAHair() {
        Due.sentence("ENDLESS; else a SHAPE (edges that part by a hair)");
        CoastWatch w = posts(2000, 0, 0, 2000);
        w.sight(0, 50, 49, -1, 1);
        w.sight(1, 1, -1, 49, 48);
        w.sight(1, 1, -1, 50, 49);
        w.sight(1, 1, -1, 49, 49);
        Due.is("a hair towards each other", w.plot(0, 1), 1);
        Due.is("parallel", w.plot(0, 2), 2);
        Due.is("a hair apart", w.plot(0, 3), 2);
        Due.is("three", w.corners(0, 1), 3);
        Due.corner(w, 0, 1, 0, 0, 1, 2000, 1);
        Due.corner(w, 0, 1, 1, 2000, 1, 0, 1);
        Due.corner(w, 0, 1, 2, 9702000, 1, 9506000, 1);
        Due.box(w, 0, 1, 0, 0, 9702000, 9506000);
    }

    private static void cornersNone() {
        Due.sentence("How many CORNERS their SHAPE has. NONE: it is none.");
        CoastWatch w = crossed();
        w.sight(0, -1, 0, 0, -1);
        w.sight(0, 1, 0, 0, 1);
        w.sight(1, 1, 0, 0, 1);
        Due.is("a shape", w.corners(0, 1), 4);
        Due.is("no points", w.corners(2, 1), -1);
        Due.is("endless", w.corners(3, 4), -1);
        Due.is("one place", w.corners(0, 2), -1);
        Due.is("itself", w.corners(1, 1), -1);
        w.step(1);
        w.sight(0, 2, 1, 1, 2);
        Due.is("different minutes", w.corners(5, 1), -1);
        Due.refusedOutside("no such one", 0, 1, -1, v -> crossed().corners(v, 1));
        Due.refusedOutside("no such other", 0, 1, -1, v -> crossed().corners(0, v));
    }

    private static void noMiddleOfOthers() {
        Due.sentence("CORNERS (points of it that are no middle of two others of it)");
        CoastWatch w = posts(0, 0, 20, 0);
        w.post(10, 10, 5);
        w.sight(0, 1, 0, 1, 1);
        w.sight(1, 0, 1, -1, 0);
        Due.is("where three lines meet is one corner", w.corners(0, 1), 3);
        Due.corner(w, 0, 1, 0, 0, 1, 0, 1);
        Due.corner(w, 0, 1, 1, 20, 1, 0, 1);
        Due.corner(w, 0, 1, 2, 20, 1, 20, 1);
        w.sight(2, -1, -1, 1, -1);
        Due.is("a place on the other's edge is a corner", w.corners(2, 0), 3);
        Due.corner(w, 2, 0, 0, 0, 1, 0, 1);
        Due.corner(w, 2, 0, 1, 10, 1, 10, 1);
        Due.corner(w, 2, 0, 2, 20, 1, 0, 1);
        w.sight(2, 0, -1, 1, 1);
        Due.is("a place between the other's edges, too", w.corners(3, 1), 4);
        Due.corner(w, 3, 1, 1, 10, 1, 10, 1);
        Due.is("one point", one().corners(0, 1), 1);
        Due.is("a stretch", stretch().corners(0, 1), 2);
    }

    private static CoastWatch one() {
        CoastWatch w = posts(0, 0, 10, 0);
        w.sight(0, 1, 0, 0, 1);
        w.sight(1, -1, -1, 1, -1);
        return w;
    }

    private static CoastWatch stretch() {
        CoastWatch w = posts(3, 4, 9, 12);
        w.sight(0, 3, 4, -1, 0);
        w.sight(1, -3, -4, 1, 0);
        return w;
    }

    private static void inOrder() {
        Due.sentence("its CORNERS in order by x, then y");
        CoastWatch w = stretch();
        Due.corner(w, 0, 1, 0, 3, 1, 4, 1);
        Due.corner(w, 0, 1, 1, 9, 1, 12, 1);
        CoastWatch upright = posts(5, 9, 5, 2);
        upright.sight(0, 0, -1, 1, 0);
        upright.sight(1, 0, 1, -1, 0);
        Due.is("of one x", upright.corners(0, 1), 2);
        Due.corner(upright, 0, 1, 0, 5, 1, 2, 1);
        Due.corner(upright, 0, 1, 1, 5, 1, 9, 1);
        CoastWatch down = posts(1, 9, 9, 2);
        down.sight(0, 8, -7, 1, 1);
        down.sight(1, -8, 7, -1, -1);
        Due.corner(down, 1, 0, 0, 1, 1, 9, 1);
        Due.corner(down, 1, 0, 1, 9, 1, 2, 1);
        // Of one x are 2 and 3 here, and both have fractions for y.
        CoastWatch box = posts(0, 0, 1, 0);
        box.sight(0, 3, 1, 1, 1);
        box.sight(1, 0, 1, -1, 1);
        Due.corner(box, 0, 1, 2, 1, 1, 1, 3);
        Due.corner(box, 0, 1, 3, 1, 1, 1, 1);
    }

    private static void lowestTerms() {
        Due.sentence("in lowest terms");
        CoastWatch w = posts(0, 0, 1, 0);
        w.sight(0, 50, 1, 50, 50);
        w.sight(1, -50, 50, -50, 1);
        Due.is("four", w.corners(0, 1), 4);
        Due.corner(w, 0, 1, 0, 1, 51, 1, 51);
        Due.corner(w, 0, 1, 1, 1, 2, 1, 100);
        Due.corner(w, 0, 1, 2, 1, 2, 1, 2);
        Due.corner(w, 0, 1, 3, 50, 51, 1, 51);
        CoastWatch zero = posts(0, 0, 0, 7);
        zero.sight(0, 50, 50, 0, 50);
        zero.sight(1, 0, -50, 50, 0);
        Due.corner(zero, 0, 1, 0, 0, 1, 0, 1);
        Due.corner(zero, 0, 1, 1, 0, 1, 7, 1);
        Due.corner(zero, 0, 1, 2, 7, 1, 7, 1);
    }

    private static void lowerOnesAboveZero() {
        Due.sentence("the lower ones above 0");
        CoastWatch w = posts(0, 0, 0, 1);
        w.sight(0, -1, 1, -3, 1);
        w.sight(1, -3, -1, -1, -1);
        Due.is("four", w.corners(0, 1), 4);
        Due.corner(w, 0, 1, 0, -3, 2, 1, 2);
        Due.corner(w, 0, 1, 1, -3, 4, 1, 4);
        Due.corner(w, 0, 1, 2, -3, 4, 3, 4);
        Due.corner(w, 0, 1, 3, -1, 2, 1, 2);
        // The same one, told the other way round.
        Due.corner(w, 1, 0, 0, -3, 2, 1, 2);
        Due.corner(w, 1, 0, 3, -1, 2, 1, 2);
    }

    private static void noSuchCorner() {
        Due.sentence("NoSuchElementException: no such CORNER, what.");
        Due.refusedOutside("i of four", 0, 3, THROWN, v -> corner(crossed(), v, 0));
        Due.refusedOutside("i of one", 0, 0, THROWN, v -> corner(one(), v, 3));
        Due.refusedOutside("i of two", 0, 1, THROWN, v -> corner(stretch(), v, 1));
        Due.refusedOutside("what", 0, 3, THROWN, v -> corner(crossed(), 0, v));
        Due.is("the first", corner(crossed(), 0, 0), 1020);
        Due.is("the last", corner(crossed(), 3, 3), 1);
        Due.is("the last of two", corner(stretch(), 1, 2), 12);
    }

    private static void cornerOfNoShape() {
        Due.sentence("NoSuchElementException: no SHAPE");
        CoastWatch w = crossed();
        w.sight(0, -1, 0, 0, -1);
        w.sight(0, 1, 0, 0, 1);
        w.sight(1, 1, 0, 0, 1);
        Due.noCorner(w, 2, 1, 0, 0);
        Due.noCorner(w, 3, 4, 0, 0);
        Due.noCorner(w, 0, 2, 0, 0);
        Due.noCorner(w, 1, 1, 0, 0);
        Due.noCorner(w, -1, 1, 0, 0);
        Due.noCorner(w, 0, 5, 0, 0);
        Due.noCorner(w, Integer.MIN_VALUE, Integer.MAX_VALUE, 0, 0);
        w.step(1);
        w.sight(0, 2, 1, 1, 2);
        Due.noCorner(w, 5, 1, 0, 0);
        Due.corner(w, 0, 1, 0, 1020, 1, 1040, 1);
    }

    private static void wholeSides() {
        Due.sentence("Its BOX is the least one with whole sides along both axes that has it.");
        CoastWatch just = stretch();
        Due.box(just, 0, 1, 3, 4, 9, 12);
        Due.box(one(), 0, 1, 10, 0, 10, 0);
        // From -3/2 to -1/2 and from 1/4 to 3/4.
        CoastWatch west = posts(0, 0, 0, 1);
        west.sight(0, -1, 1, -3, 1);
        west.sight(1, -3, -1, -1, -1);
        Due.box(west, 0, 1, -2, 0, 0, 1);
        // From 1/4 to 3/4 and from -3/2 to -1/2.
        CoastWatch south = posts(0, 0, 1, 0);
        south.sight(0, 1, -3, 1, -1);
        south.sight(1, -1, -1, -1, -3);
        Due.box(south, 0, 1, 0, -2, 1, 0);
        // Up to 1/2 over 0: of two sides on whole numbers the ones between are rounded alone.
        CoastWatch low = posts(0, 0, 1, 0);
        low.sight(0, 1, 0, 1, 1);
        low.sight(1, -1, 1, -1, 0);
        Due.box(low, 0, 1, 0, 0, 1, 1);
    }

    private static void noSuchSide() {
        Due.sentence("Of their SHAPE's BOX: 0 .. 3. NoSuchElementException likewise. (what)");
        Due.refusedOutside("what", 0, 3, THROWN, v -> box(crossed(), v));
        Due.is("the first", box(crossed(), 0), 1020);
        Due.is("the last", box(crossed(), 3), 1100);
    }

    private static void boxOfNoShape() {
        Due.sentence("Of their SHAPE's BOX. NoSuchElementException likewise. (no SHAPE)");
        CoastWatch w = crossed();
        w.sight(0, -1, 0, 0, -1);
        w.sight(0, 1, 0, 0, 1);
        w.sight(1, 1, 0, 0, 1);
        Due.noBox(w, 2, 1, 0);
        Due.noBox(w, 3, 4, 0);
        Due.noBox(w, 0, 2, 0);
        Due.noBox(w, 1, 1, 0);
        Due.noBox(w, -1, 1, 0);
        Due.noBox(w, 0, 5, 0);
        Due.noBox(w, Integer.MAX_VALUE, Integer.MIN_VALUE, 0);
        w.step(1);
        w.sight(0, 2, 1, 1, 2);
        Due.noBox(w, 5, 1, 0);
        Due.box(w, 0, 1, 1020, 1025, 1080, 1100);
    }

    private static void askedInAnyOrder() {
        Due.sentence("What is refused changes nothing. (nor does a question)");
        CoastWatch w = crossed();
        w.sight(0, 1, 0, 1, 1);
        w.sight(1, -1, 0, -1, -1);
        Due.is("another plot's corners", w.corners(2, 3), 2);
        Due.noCorner(w, 2, 3, 2, 0);
        Due.corner(w, 0, 1, 3, 1080, 1, 1040, 1);
        Due.noBox(w, 2, 0, 0);
        Due.box(w, 2, 3, 1000, 1000, 1100, 1000);
        Due.is("nothing was plotted", w.count(4), 0);
        Due.is("no more sightings", w.count(3), 4);
    }
}
