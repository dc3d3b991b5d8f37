/** Promises 1 to 7: a new object, posts, reaches, weather, what is seen, manned, open. */
public final class LookoutsTest {
    public static void main(String[] args) {
        newObject();
        posts();
        reaches();
        weather();
        sees();
        mannedFewest();
        mannedLeastBits();
        open();
        Due.end();
    }

    private static void newObject() {
        CoastWatch w = new CoastWatch();
        Due.counts(w, "new", 0, 0, 0, 0, 0, 0, 0, 0, 0, -1);
        Due.is("manned of nothing", w.manned(0), 0);
        Due.is("open of nothing", w.open(0), 0);
        Due.is("no log", w.log(0, 0), -1);
        Due.is("no plot", w.track(0, 0), -1);
        Due.is("no boat", w.boat(0, 0, 0), -1);
        Due.is("no post", w.sees(0, 0, 0, 0), -1);
    }

    private static void posts() {
        CoastWatch w = new CoastWatch();
        Due.is("x below", w.post(-1, 0, 1), -1);
        Due.is("x above", w.post(2001, 0, 1), -1);
        Due.is("y below", w.post(0, -1, 1), -1);
        Due.is("y above", w.post(0, 2001, 1), -1);
        Due.is("height below", w.post(0, 0, 0), -1);
        Due.is("height above", w.post(0, 0, 501), -1);
        Due.is("far out", w.post(Integer.MIN_VALUE, Integer.MAX_VALUE, Integer.MIN_VALUE), -1);
        Due.is("none was made", w.count(1), 0);
        Due.is("least", w.post(0, 0, 1), 0);
        Due.is("greatest", w.post(2000, 2000, 500), 1);
        for (int p = 2; p < 6; p++) {
            Due.is("one place may have several", w.post(0, 0, 1), p);
        }
        Due.is("the seventh", w.post(5, 5, 5), -1);
        Due.is("six", w.count(1), 6);
    }

    private static void reaches() {
        CoastWatch w = new CoastWatch();
        Due.is("x below", w.reach(-1, 0), -1);
        Due.is("x above", w.reach(2001, 0), -1);
        Due.is("y below", w.reach(0, -1), -1);
        Due.is("y above", w.reach(0, 2001), -1);
        Due.is("none was made", w.count(2), 0);
        Due.is("least", w.reach(0, 0), 0);
        Due.is("greatest", w.reach(2000, 2000), 1);
        for (int r = 2; r < 8; r++) {
            Due.is("reach", w.reach(7, 7), r);
        }
        Due.is("the ninth", w.reach(1, 1), -1);
        Due.is("eight", w.count(2), 8);
        Due.is("all open", w.open(0), 255);
    }

    private static void weather() {
        CoastWatch w = new CoastWatch();
        w.post(0, 0, 500);
        Due.is("hour below", w.weather(-1, 5), false);
        Due.is("hour above", w.weather(334, 5), false);
        Due.is("visibility below", w.weather(0, -1), false);
        Due.is("visibility above", w.weather(0, 2001), false);
        Due.is("300 as long as none is told", w.sees(0, 300, 0, 0), 1);
        Due.is("and no more", w.sees(0, 300, 1, 0), 0);
        Due.is("told", w.weather(0, 301), true);
        Due.is("farther now", w.sees(0, 300, 1, 0), 1);
        Due.is("the next hour is as it was", w.sees(0, 300, 1, 1), 0);
        Due.is("told again", w.weather(0, 0), true);
        Due.is("its own place", w.sees(0, 0, 0, 0), 1);
        Due.is("not beside it", w.sees(0, 1, 0, 0), 0);
        Due.is("the last hour, the greatest", w.weather(333, 2000), true);
        Due.is("the height bounds it", w.sees(0, 798, 14, 333), 1);
        Due.is("the height bounds it", w.sees(0, 798, 15, 333), 0);
        w.step(3000);
        Due.is("an hour gone by may be told", w.weather(0, 2), true);
        Due.is("and counts", w.sees(0, 2, 0, 0), 1);
    }

    private static void sees() {
        CoastWatch w = new CoastWatch();
        w.post(1000, 1000, 1);
        w.post(0, 0, 100);
        Due.is("post below", w.sees(-1, 0, 0, 0), -1);
        Due.is("post above", w.sees(2, 0, 0, 0), -1);
        Due.is("x below", w.sees(0, -1, 0, 0), -1);
        Due.is("x above", w.sees(0, 2001, 0, 0), -1);
        Due.is("y below", w.sees(0, 0, -1, 0), -1);
        Due.is("y above", w.sees(0, 0, 2001, 0), -1);
        Due.is("hour below", w.sees(0, 0, 0, -1), -1);
        Due.is("hour above", w.sees(0, 0, 0, 334), -1);
        Due.is("35, 7: 1274, just so", w.sees(0, 1035, 993, 0), 1);
        Due.is("35, 7 the other way", w.sees(0, 965, 1007, 333), 1);
        Due.is("35, 8 is farther", w.sees(0, 1035, 992, 0), 0);
        Due.is("36, 0 is farther", w.sees(0, 1036, 1000, 0), 0);
        w.weather(9, 5);
        Due.is("3, 4 within 5", w.sees(0, 1003, 1004, 9), 1);
        Due.is("4, 4 not", w.sees(0, 1004, 1004, 9), 0);
        Due.is("farthest corner", w.sees(1, 2000, 2000, 0), 0);
    }

    private static void mannedFewest() {
        CoastWatch w = new CoastWatch();
        Due.is("hour below", w.manned(-1), -1);
        Due.is("hour above", w.manned(334), -1);
        w.post(100, 100, 1);
        w.post(200, 100, 1);
        w.post(300, 100, 1);
        w.post(200, 100, 500);
        Due.is("no reaches", w.manned(0), 0);
        w.reach(100, 100);
        Due.is("0 alone or 3 alone: the least", w.manned(0), 1);
        w.reach(200, 100);
        Due.is("3 alone, not 0 and 1", w.manned(0), 8);
        w.reach(300, 100);
        Due.is("3 alone", w.manned(0), 8);
        w.reach(1900, 1900);
        Due.is("what none sees does not matter", w.manned(0), 8);
        w.weather(1, 50);
        Due.is("in mist each of its own", w.manned(1), 7);
        Due.is("the last hour", w.manned(333), 8);
        w.weather(2, 0);
        w.reach(310, 100);
        Due.is("in fog, too, at their own places", w.manned(2), 7);
    }

    private static void mannedLeastBits() {
        CoastWatch w = new CoastWatch();
        for (int p = 0; p < 6; p++) {
            w.post(p < 3 ? 10 : 500, 10, 1);
        }
        w.reach(500, 20);
        Due.is("the least that sees it", w.manned(0), 8);
        w.reach(10, 20);
        Due.is("the least two", w.manned(0), 9);
        CoastWatch six = new CoastWatch();
        for (int p = 0; p < 6; p++) {
            six.post(300 * p, 0, 1);
            six.reach(300 * p, 1);
        }
        Due.is("all six", six.manned(5), 63);
        Due.is("none open", six.open(5), 0);
        // 1 and 2 see what 0 and 3 see: of {0, 3} (9) and {1, 2} (6) the least as bits is 6.
        CoastWatch pairs = new CoastWatch();
        pairs.post(100, 100, 1);
        pairs.post(100, 140, 1);
        pairs.post(140, 100, 1);
        pairs.post(140, 140, 1);
        pairs.reach(100, 120);
        pairs.reach(120, 100);
        pairs.reach(140, 120);
        pairs.reach(120, 140);
        Due.is("least as bits", pairs.manned(0), 6);
    }

    private static void open() {
        CoastWatch w = new CoastWatch();
        Due.is("hour below", w.open(-1), -1);
        Due.is("hour above", w.open(334), -1);
        w.reach(0, 0);
        w.reach(100, 0);
        w.reach(200, 0);
        Due.is("no posts", w.open(0), 7);
        w.post(100, 0, 1);
        Due.is("but one", w.open(0), 5);
        w.post(150, 0, 10);
        Due.is("112 from it at most", w.open(0), 1);
        w.weather(7, 20);
        Due.is("another hour", w.open(7), 5);
        Due.is("the last hour", w.open(333), 1);
    }
}
