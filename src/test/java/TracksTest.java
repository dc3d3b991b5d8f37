/** Promises 13 to 15: what is plotted, speed and tracks. */
public final class TracksTest {
    private static final int WEST = 0;
    private static final int EAST = 1;

    public static void main(String[] args) {
        refused();
        eitherWayRound();
        sixtyPlots();
        nearEnough();
        speedBounds();
        speedFromNowOn();
        sameMinute();
        plottedLate();
        nearest();
        leastNumber();
        diagonal();
        touching();
        Due.end();
    }

    /** A grid of posts on one line, so that points on a whole row can be plotted head on. */
    private static CoastWatch coast() {
        CoastWatch w = new CoastWatch();
        w.post(0, 0, 1);
        w.post(100, 0, 1);
        w.post(200, 0, 1);
        w.post(1000, 0, 1);
        w.post(1010, 0, 1);
        w.post(0, 50, 1);
        return w;
    }

    /** The segment from one post on the row to another: its box is just that. */
    private static int segment(CoastWatch w, int from, int to) {
        int one = w.sight(from, 1, 0, 1, 1);
        int other = w.sight(to, -1, 0, -1, -1);
        return w.plotted(one, other);
    }

    private static void refused() {
        CoastWatch w = coast();
        Due.is("no sightings", w.plotted(0, 1), -1);
        w.sight(0, 1, 1, -1, 1);
        w.sight(1, 1, 1, -1, 1);
        w.sight(1, -1, -1, 1, -1);
        Due.is("endless", w.plotted(0, 1), -1);
        Due.is("no points", w.plotted(0, 2), -1);
        Due.is("one place", w.plotted(1, 2), -1);
        Due.is("itself", w.plotted(1, 1), -1);
        Due.is("below", w.plotted(-1, 1), -1);
        Due.is("above", w.plotted(0, 3), -1);
        Due.is("none", w.count(4), 0);
        Due.is("no tracks", w.count(5), 0);
        Due.is("track of none", w.track(0, 0), -1);
        w.step(1);
        w.sight(1, -1, 0, -1, -1);
        Due.is("different minutes", w.plotted(0, 3), -1);
    }

    private static void eitherWayRound() {
        CoastWatch w = coast();
        w.step(7);
        w.sight(WEST, 1, 0, 1, 1);
        w.sight(EAST, -1, 0, -1, -1);
        w.sight(EAST, -1, 0, -1, -1);
        w.step(5);
        Due.is("the first track", w.plotted(1, 0), 0);
        Due.is("again", w.plotted(1, 0), -1);
        Due.is("the other way round", w.plotted(0, 1), -1);
        Due.is("another sighting alike", w.plotted(0, 2), 1);
        Due.is("two", w.count(4), 2);
        Due.is("tracks", w.count(5), 2);
        Due.is("its track", w.track(0, 0), 0);
        Due.is("as told", w.track(0, 1), 1);
        Due.is("as told", w.track(0, 2), 0);
        Due.is("the minute of its sightings", w.track(0, 3), 7);
        Due.is("the second's track", w.track(1, 0), 1);
        Due.is("as told", w.track(1, 1), 0);
        Due.is("as told", w.track(1, 2), 2);
        Due.is("what below", w.track(0, -1), -1);
        Due.is("what above", w.track(0, 4), -1);
        Due.is("plot below", w.track(-1, 0), -1);
        Due.is("plot above", w.track(2, 0), -1);
    }

    private static void sixtyPlots() {
        CoastWatch w = coast();
        for (int i = 0; i < 8; i++) {
            w.sight(WEST, 1, 0, 1, 1);
        }
        for (int i = 0; i < 8; i++) {
            w.sight(EAST, -1, 0, -1, -1);
        }
        for (int i = 0; i < 60; i++) {
            Due.is("one minute: all of their own", w.plotted(i / 8, 8 + i % 8), i);
        }
        Due.is("60 were", w.plotted(7, 12), -1);
        Due.is("it would be one", w.plot(7, 12), 1);
        Due.is("60 plots", w.count(4), 60);
        Due.is("60 tracks", w.count(5), 60);
        Due.is("the last one", w.track(59, 2), 11);
        Due.is("and no other", w.track(60, 0), -1);
    }

    private static void nearEnough() {
        CoastWatch w = coast();
        Due.is("0 .. 100", segment(w, 0, 1), 0);
        w.step(79);
        Due.is("900 off, 790 let", segment(w, 3, 4), 1);
        w.step(11);
        Due.is("800 off from the west, 0 from the east", segment(w, 3, 4), 1);
        CoastWatch just = coast();
        segment(just, 0, 1);
        just.step(90);
        Due.is("900 off, 900 let", segment(just, 3, 4), 0);
        CoastWatch not = coast();
        segment(not, 0, 1);
        not.step(89);
        Due.is("900 off, 890 let", segment(not, 3, 4), 1);
        Due.is("two tracks", not.count(5), 2);
    }

    private static void speedBounds() {
        CoastWatch w = coast();
        Due.is("0", w.speed(0), false);
        Due.is("101", w.speed(101), false);
        Due.is("below", w.speed(-10), false);
        segment(w, 0, 1);
        w.step(9);
        Due.is("refused: still 10", segment(w, 3, 4), 1);
        CoastWatch fast = coast();
        Due.is("100", fast.speed(100), true);
        segment(fast, 0, 1);
        fast.step(9);
        Due.is("900 off, 900 let", segment(fast, 3, 4), 0);
        CoastWatch slow = coast();
        Due.is("1", slow.speed(1), true);
        segment(slow, 0, 1);
        slow.step(899);
        Due.is("900 off, 899 let", segment(slow, 3, 4), 1);
    }

    private static void speedFromNowOn() {
        CoastWatch w = coast();
        segment(w, 0, 1);
        w.step(9);
        segment(w, 3, 4);
        w.speed(100);
        Due.is("what was plotted stays", w.track(1, 0), 1);
        Due.is("two tracks", w.count(5), 2);
        w.step(1);
        Due.is("0 off from both; the least is 0", segment(w, 0, 4), 0);
    }

    private static void sameMinute() {
        CoastWatch w = coast();
        Due.is("first", segment(w, 0, 1), 0);
        Due.is("of one minute: another track", segment(w, 0, 1), 1);
        w.step(1);
        Due.is("joins the least", segment(w, 0, 1), 0);
        Due.is("0 has one of this minute", segment(w, 0, 1), 1);
        Due.is("both have", segment(w, 0, 1), 2);
    }

    private static void plottedLate() {
        CoastWatch w = coast();
        int early = w.sight(WEST, 1, 0, 1, 1);
        int earlyToo = w.sight(EAST, -1, 0, -1, -1);
        w.step(10);
        Due.is("first", segment(w, 0, 1), 0);
        Due.is("its latest is no earlier one", w.plotted(early, earlyToo), 1);
        Due.is("an earlier minute", w.track(1, 3), 0);
        w.step(1);
        Due.is("both near: the least", segment(w, 0, 1), 0);
    }

    private static void nearest() {
        CoastWatch w = coast();
        w.speed(100);
        Due.is("0 .. 100", segment(w, 0, 1), 0);
        Due.is("1000 .. 1010", segment(w, 3, 4), 1);
        w.step(100);
        Due.is("100 .. 200: nearer to the first", segment(w, 1, 2), 0);
        w.step(100);
        Due.is("1000 .. 1010: nearer to the second", segment(w, 3, 4), 1);
        w.step(100);
        Due.is("0 .. 100: by the latest alone", segment(w, 0, 1), 0);
        Due.is("two tracks", w.count(5), 2);
    }

    private static void leastNumber() {
        CoastWatch w = new CoastWatch();
        w.post(0, 0, 1);
        w.post(10, 0, 1);
        w.post(30, 0, 1);
        w.post(40, 0, 1);
        w.post(60, 0, 1);
        w.post(70, 0, 1);
        Due.is("60 .. 70", segment(w, 4, 5), 0);
        Due.is("0 .. 10", segment(w, 0, 1), 1);
        w.step(10);
        Due.is("20 from both", segment(w, 2, 3), 0);
    }

    private static void diagonal() {
        // Boxes 0 .. 10, 0 and 13 .. 20, 4: 3 and 4 apart, so 5.
        for (int minutes = 4; minutes <= 5; minutes++) {
            CoastWatch w = new CoastWatch();
            w.post(0, 0, 1);
            w.post(10, 0, 1);
            w.post(13, 4, 1);
            w.post(20, 4, 1);
            w.speed(1);
            segment(w, 0, 1);
            w.step(minutes);
            Due.is("3, 4 apart, let " + minutes, segment(w, 2, 3), minutes == 5 ? 0 : 1);
            w.step(5);
            Due.is("back again", segment(w, 0, 1), 0);
        }
    }

    private static void touching() {
        // The shape reaches from 1/2 to 1; its box from 0 to 1 holds the point 0, 0.
        CoastWatch w = new CoastWatch();
        w.post(0, 0, 1);
        w.post(1, 0, 1);
        w.post(3, 0, 1);
        w.post(9, 0, 1);
        w.speed(1);
        int one = w.sight(0, 3, 1, 1, 1);
        int other = w.sight(1, 0, 1, -1, 1);
        Due.is("0 .. 1", w.plotted(one, other), 0);
        w.step(2);
        Due.is("3 .. 9: 2 from the box", segment(w, 2, 3), 0);
    }
}
