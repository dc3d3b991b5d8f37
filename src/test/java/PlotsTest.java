/** Promises 8 to 12: sightings, their plots, corners and boxes. */
public final class PlotsTest {
    public static void main(String[] args) {
        sight();
        hundredSightings();
        plotRefused();
        plotKinds();
        fourCorners();
        fractions();
        onePoint();
        segment();
        apexInside();
        parallelEdges();
        beyondBounds();
        Due.end();
    }

    private static CoastWatch two(int x, int y) {
        CoastWatch w = new CoastWatch();
        w.post(1000, 1000, 5);
        w.post(1000 + x, 1000 + y, 5);
        return w;
    }

    private static void sight() {
        CoastWatch w = new CoastWatch();
        Due.is("no post", w.sight(0, 1, 0, 0, 1), -1);
        w.post(5, 5, 5);
        Due.is("post below", w.sight(-1, 1, 0, 0, 1), -1);
        Due.is("post above", w.sight(1, 1, 0, 0, 1), -1);
        Due.is("a above", w.sight(0, 51, 0, 0, 1), -1);
        Due.is("b above", w.sight(0, 1, 51, -1, 1), -1);
        Due.is("c below", w.sight(0, 1, 0, -51, 1), -1);
        Due.is("d above", w.sight(0, 1, 0, 0, 51), -1);
        Due.is("a below", w.sight(0, -51, 0, 0, -1), -1);
        Due.is("b below", w.sight(0, 0, -51, 1, 0), -1);
        Due.is("c above", w.sight(0, 0, -1, 51, 0), -1);
        Due.is("d below", w.sight(0, -1, 0, 0, -51), -1);
        Due.is("would wrap", w.sight(0, 65536, 0, 0, 65537), -1);
        Due.is("first of no length", w.sight(0, 0, 0, 0, 1), -1);
        Due.is("second of no length", w.sight(0, 1, 0, 0, 0), -1);
        Due.is("one direction", w.sight(0, 1, 2, 2, 4), -1);
        Due.is("half a round", w.sight(0, 1, 2, -1, -2), -1);
        Due.is("to the right", w.sight(0, 0, 1, 1, 0), -1);
        Due.is("none was made", w.count(3), 0);
        Due.is("to the left", w.sight(0, 1, 0, 0, 1), 0);
        Due.is("a hair to the left", w.sight(0, 50, 49, 49, 49), 1);
        Due.is("a hair less than half a round", w.sight(0, 50, 1, -50, 0), 2);
        Due.is("greatest, least", w.sight(0, -50, -50, 50, -50), 3);
        Due.is("four", w.count(3), 4);
    }

    private static void hundredSightings() {
        CoastWatch w = new CoastWatch();
        w.post(5, 5, 5);
        for (int s = 0; s < 100; s++) {
            Due.is("sighting", w.sight(0, 1, 0, 0, 1), s);
        }
        Due.is("there are 100", w.sight(0, 1, 0, 0, 1), -1);
        Due.is("100", w.count(3), 100);
    }

    private static void plotRefused() {
        CoastWatch w = two(100, 0);
        w.post(1000, 1000, 77);
        Due.is("no sightings", w.plot(0, 1), -1);
        w.sight(0, 2, 1, 1, 2);
        w.sight(1, -1, 2, -2, 1);
        w.sight(2, 0, 1, -1, 0);
        Due.is("below", w.plot(-1, 1), -1);
        Due.is("below", w.plot(1, -1), -1);
        Due.is("above", w.plot(0, 3), -1);
        Due.is("above", w.plot(3, 0), -1);
        Due.is("itself", w.plot(0, 0), -1);
        Due.is("two posts of one place", w.plot(0, 2), -1);
        Due.is("corners likewise", w.corners(0, 2), -1);
        Due.noCorner(w, 0, 2, 0, 0);
        Due.noBox(w, 0, 2, 0);
        Due.noBox(w, 0, 3, 0);
        Due.is("a shape", w.plot(0, 1), 1);
        w.step(1);
        w.sight(1, -1, 2, -2, 1);
        Due.is("of different minutes", w.plot(0, 3), -1);
        Due.is("of different minutes", w.plot(3, 0), -1);
        Due.is("of an earlier minute both", w.plot(1, 0), 1);
        Due.noCorner(w, 0, 3, 0, 0);
        Due.noCorner(w, 0, 1, -1, 0);
        Due.noCorner(w, 0, 1, 4, 0);
        Due.noCorner(w, 0, 1, 0, -1);
        Due.noCorner(w, 0, 1, 0, 4);
        Due.noCorner(w, 0, 1, Integer.MAX_VALUE, 0);
        Due.noBox(w, 0, 1, -1);
        Due.noBox(w, 0, 1, 4);
    }

    private static void plotKinds() {
        CoastWatch w = two(100, 0);
        w.sight(0, 1, 1, -1, 1);
        w.sight(1, 1, 1, -1, 1);
        Due.is("both upwards", w.plot(0, 1), 2);
        Due.is("either way round", w.plot(1, 0), 2);
        Due.is("no shape", w.corners(0, 1), -1);
        Due.noCorner(w, 0, 1, 0, 0);
        Due.noBox(w, 0, 1, 0);
        w.sight(1, 1, -1, 1, 1);
        Due.is("a direction of both, but no points", w.plot(0, 2), 0);
        w.sight(1, -1, -1, 1, -1);
        Due.is("the one up, the other down", w.plot(0, 3), 0);
        Due.is("no points are no shape", w.corners(0, 3), -1);
        Due.noCorner(w, 0, 3, 0, 0);
        Due.noBox(w, 0, 3, 0);
        w.sight(0, -1, 0, 0, -1);
        w.sight(1, 1, 0, 0, 1);
        Due.is("turned away", w.plot(4, 5), 0);
        w.sight(0, 1, -1, 1, 1);
        w.sight(1, 2, -1, 2, 1);
        Due.is("one within the other", w.plot(6, 7), 2);
    }

    private static void fourCorners() {
        CoastWatch w = two(100, 0);
        w.sight(0, 2, 1, 1, 2);
        w.sight(1, -1, 2, -2, 1);
        Due.is("shape", w.plot(0, 1), 1);
        Due.is("four", w.corners(0, 1), 4);
        Due.corner(w, 0, 1, 0, 1020, 1, 1040, 1);
        Due.corner(w, 0, 1, 1, 1050, 1, 1025, 1);
        Due.corner(w, 0, 1, 2, 1050, 1, 1100, 1);
        Due.corner(w, 1, 0, 3, 1080, 1, 1040, 1);
        Due.box(w, 0, 1, 1020, 1025, 1080, 1100);
        Due.box(w, 1, 0, 1020, 1025, 1080, 1100);
    }

    private static void fractions() {
        CoastWatch w = new CoastWatch();
        w.post(0, 0, 5);
        w.post(1, 0, 5);
        w.sight(0, 3, 1, 1, 1);
        w.sight(1, 0, 1, -1, 1);
        Due.is("shape", w.plot(0, 1), 1);
        Due.is("four", w.corners(0, 1), 4);
        Due.corner(w, 0, 1, 0, 1, 2, 1, 2);
        Due.corner(w, 0, 1, 1, 3, 4, 1, 4);
        Due.corner(w, 0, 1, 2, 1, 1, 1, 3);
        Due.corner(w, 0, 1, 3, 1, 1, 1, 1);
        Due.box(w, 0, 1, 0, 0, 1, 1);
    }

    private static void onePoint() {
        CoastWatch w = two(10, 0);
        w.sight(0, 1, 0, 1, 1);
        w.sight(1, 0, -1, 1, 0);
        Due.is("edge on edge, both to the right", w.plot(0, 1), 2);
        w.sight(1, -1, -1, 1, -1);
        Due.is("the other's place is on the edge", w.plot(0, 2), 1);
        Due.is("one corner", w.corners(0, 2), 1);
        Due.corner(w, 0, 2, 0, 1010, 1, 1000, 1);
        Due.box(w, 0, 2, 1010, 1000, 1010, 1000);
        Due.noCorner(w, 0, 2, 1, 0);
    }

    private static void segment() {
        CoastWatch w = two(10, 0);
        w.sight(0, 1, 0, 1, 1);
        w.sight(1, -1, 0, -1, -1);
        Due.is("edges meet head on", w.plot(0, 1), 1);
        Due.is("two corners", w.corners(0, 1), 2);
        Due.corner(w, 1, 0, 0, 1000, 1, 1000, 1);
        Due.corner(w, 1, 0, 1, 1010, 1, 1000, 1);
        Due.box(w, 0, 1, 1000, 1000, 1010, 1000);
        CoastWatch zero = new CoastWatch();
        zero.post(0, 0, 1);
        zero.post(10, 0, 1);
        zero.sight(0, 3, 0, 2, 2);
        zero.sight(1, -7, 0, -1, -1);
        Due.corner(zero, 0, 1, 0, 0, 1, 0, 1);
        Due.corner(zero, 0, 1, 1, 10, 1, 0, 1);
        Due.box(zero, 0, 1, 0, 0, 10, 0);
    }

    private static void apexInside() {
        CoastWatch w = two(10, 0);
        w.sight(0, 1, -1, 1, 1);
        w.sight(1, -1, 2, -1, -2);
        Due.is("each has the other's place", w.corners(0, 1), 4);
        Due.corner(w, 0, 1, 0, 1000, 1, 1000, 1);
        Due.corner(w, 0, 1, 1, 3020, 3, 2980, 3);
        Due.corner(w, 0, 1, 2, 3020, 3, 3020, 3);
        Due.corner(w, 0, 1, 3, 1010, 1, 1000, 1);
        Due.box(w, 0, 1, 1000, 993, 1010, 1007);
        w.sight(1, 0, 1, -1, 0);
        Due.is("one on an edge: a triangle", w.corners(0, 2), 3);
        Due.corner(w, 0, 2, 0, 1000, 1, 1000, 1);
        Due.corner(w, 0, 2, 1, 1010, 1, 1000, 1);
        Due.corner(w, 0, 2, 2, 1010, 1, 1010, 1);
    }

    private static void parallelEdges() {
        CoastWatch w = two(0, 10);
        w.sight(0, 1, -1, 1, 0);
        w.sight(1, 1, 0, 1, 1);
        Due.is("a strip apart: none", w.plot(0, 1), 0);
        w.sight(0, 1, 0, 1, 1);
        w.sight(1, 1, -1, 1, 0);
        Due.is("a strip between: endless", w.plot(2, 3), 2);
        CoastWatch line = two(10, 20);
        line.sight(0, 1, 2, 0, 1);
        line.sight(1, 2, 1, 2, 4);
        Due.is("one line, one way: endless", line.plot(0, 1), 2);
        line.sight(1, -2, -4, 1, -1);
        Due.is("one line, the other way: a segment", line.plot(0, 2), 1);
        Due.is("two corners", line.corners(0, 2), 2);
        Due.corner(line, 0, 2, 1, 1010, 1, 1020, 1);
    }

    private static void beyondBounds() {
        CoastWatch w = new CoastWatch();
        w.post(0, 0, 1);
        w.post(2000, 0, 1);
        w.sight(0, 1, -1, 1, 0);
        w.sight(1, -1, -1, 49, -50);
        Due.is("far below", w.plot(0, 1), 1);
        Due.is("three", w.corners(0, 1), 3);
        Due.corner(w, 0, 1, 0, 1000, 1, -1000, 1);
        Due.corner(w, 0, 1, 1, 2000, 1, 0, 1);
        Due.corner(w, 0, 1, 2, 100000, 1, -100000, 1);
        Due.box(w, 0, 1, 1000, -100000, 100000, 0);
        CoastWatch below = new CoastWatch();
        below.post(0, 0, 5);
        below.post(1, 0, 5);
        below.sight(0, 1, -1, 3, -1);
        below.sight(1, -1, -1, 0, -1);
        Due.is("four", below.corners(0, 1), 4);
        Due.corner(below, 0, 1, 0, 1, 2, -1, 2);
        Due.corner(below, 0, 1, 1, 3, 4, -1, 4);
        Due.corner(below, 0, 1, 2, 1, 1, -1, 1);
        Due.corner(below, 0, 1, 3, 1, 1, -1, 3);
        Due.box(below, 0, 1, 0, -1, 1, 0);
        CoastWatch half = new CoastWatch();
        half.post(0, 0, 5);
        half.post(3, 0, 5);
        half.sight(0, 1, 0, 1, 1);
        half.sight(1, -1, 1, -1, 0);
        Due.is("a triangle", half.corners(0, 1), 3);
        Due.corner(half, 0, 1, 1, 3, 2, 3, 2);
        Due.box(half, 0, 1, 0, 0, 3, 2);
    }
}
