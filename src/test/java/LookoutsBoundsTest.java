/** Each sentence that names a boundary in "Terms" 1 and in promises 1 to 7. */
public final class LookoutsBoundsTest {
    public static void main(String[] args) {
        newObject();
        objectsShareNothing();
        places();
        heights();
        sixPosts();
        eightReaches();
        hours();
        visibilities();
        visibilityUntold();
        visibilityToldAgain();
        seenAtMostVisibility();
        seenAtMostHeight();
        seenAtMostBoth();
        seesNoSuchPost();
        mannedOfNothing();
        mannedOnlyWhatIsSeen();
        mannedFewest();
        mannedLeastBits();
        mannedAllSix();
        openBits();
        Due.end();
    }

    private static CoastWatch onePost(int x, int y, int height) {
        CoastWatch w = new CoastWatch();
        w.post(x, y, height);
        return w;
    }

    private static void newObject() {
        Due.sentence("NOW 0, nothing.");
        CoastWatch w = new CoastWatch();
        Due.counts(w, "new", 0, 0, 0, 0, 0, 0, 0, 0, 0);
        Due.is("no post", w.sees(0, 0, 0, 0), -1);
        Due.is("no post to sight from", w.sight(0, 1, 0, 0, 1), -1);
        Due.is("no sightings", w.plot(0, 1), -1);
        Due.is("no corners", w.corners(0, 0), -1);
        Due.noCorner(w, 0, 0, 0, 0);
        Due.noBox(w, 0, 0, 0);
        Due.is("nothing to plot", w.plotted(0, 1), -1);
        Due.is("no plot", w.track(0, 0), -1);
        Due.is("no boat", w.boat(0, 0, 0), -1);
        Due.is("no boat comes in", w.in(0), false);
        Due.is("no line", w.log(0, 0), -1);
    }

    private static void objectsShareNothing() {
        Due.sentence("CoastWatch(): NOW 0, nothing. (another object has much)");
        CoastWatch other = onePost(0, 0, 1);
        other.reach(0, 0);
        other.weather(0, 0);
        other.speed(100);
        other.call(0, 0);
        other.plan(0, 0, 0, 0);
        other.step(5);
        CoastWatch w = new CoastWatch();
        Due.counts(w, "new", 0, 0, 0, 0, 0, 0, 0, 0, 0);
        w.post(0, 0, 500);
        Due.is("its own weather", w.sees(0, 300, 0, 0), 1);
        w.plan(0, 0, 0, 0);
        w.step(5);
        Due.is("its own rules", w.count(7), 0);
    }

    private static void places() {
        Due.sentence("PLACES are pairs of whole numbers 0 .. 2,000");
        Due.bounds("post x", 0, 2000, 0, v -> new CoastWatch().post(v, 0, 1));
        Due.bounds("post y", 0, 2000, 0, v -> new CoastWatch().post(0, v, 1));
        Due.bounds("reach x", 0, 2000, 0, v -> new CoastWatch().reach(v, 0));
        Due.bounds("reach y", 0, 2000, 0, v -> new CoastWatch().reach(0, v));
        Due.bounds("sees x", 0, 2000, 0, v -> onePost(1000, 1000, 1).sees(0, v, 1000, 0));
        Due.bounds("sees y", 0, 2000, 0, v -> onePost(1000, 1000, 1).sees(0, 1000, v, 0));
        Due.is("both out", new CoastWatch().post(-1, 2001, 1), -1);
        Due.is("both at the end", onePost(2000, 2000, 1).sees(0, 2000, 2000, 0), 1);
    }

    private static void heights() {
        Due.sentence("POSTS have a PLACE and a HEIGHT (1 .. 500 metres)");
        Due.bounds("height", 1, 500, 0, v -> new CoastWatch().post(7, 8, v));
    }

    private static void sixPosts() {
        Due.sentence("A POST: its number. NONE: there are six");
        CoastWatch w = new CoastWatch();
        for (int p = 0; p < 6; p++) {
            Due.is("post", w.post(100 * p, 0, 1), p);
        }
        Due.is("the seventh", w.post(600, 0, 1), -1);
        Due.is("of one place with another", w.post(0, 0, 1), -1);
        Due.is("six", w.count(1), 6);
        Due.is("no seventh sees", w.sees(6, 600, 0, 0), -1);
        for (int p = 0; p < 6; p++) {
            Due.is("each as it was", w.sees(p, 100 * p, 35, 0), 1);
            Due.is("each as it was", w.sees(p, 100 * p, 36, 0), 0);
        }
    }

    private static void eightReaches() {
        Due.sentence("A REACH: its number. NONE: there are eight");
        CoastWatch w = new CoastWatch();
        for (int r = 0; r < 8; r++) {
            Due.is("reach", w.reach(100 * r, 0), r);
        }
        Due.is("the ninth", w.reach(0, 0), -1);
        Due.is("eight", w.count(2), 8);
        w.post(0, 0, 1);
        Due.is("the first is the post's, no ninth is", w.open(0), 254);
    }

    private static void hours() {
        Due.sentence("VISIBILITY of an HOUR (0 .. 333). False: out of bounds. / NONE: no such HOUR.");
        Due.boundsOfYes("weather", 0, 333, v -> Due.yes(new CoastWatch().weather(v, 300)));
        Due.bounds("sees", 0, 333, 1, v -> onePost(0, 0, 1).sees(0, 0, 0, v));
        Due.bounds("manned", 0, 333, 0, v -> onePost(0, 0, 1).manned(v));
        Due.bounds("open", 0, 333, 0, v -> onePost(0, 0, 1).open(v));
        CoastWatch w = onePost(0, 0, 1);
        w.reach(5, 0);
        w.weather(0, 4);
        w.weather(333, 4);
        Due.is("the first hour alone", w.open(0), 1);
        Due.is("not the next", w.open(1), 0);
        Due.is("not the last but one", w.manned(332), 1);
        Due.is("the last hour alone", w.manned(333), 0);
    }

    private static void visibilities() {
        Due.sentence("VISIBILITY of an HOUR is a number 0 .. 2,000");
        Due.boundsOfYes("visibility", 0, 2000, v -> Due.yes(new CoastWatch().weather(5, v)));
        CoastWatch w = onePost(0, 0, 500);
        w.weather(3, 0);
        Due.is("0: its own place", w.sees(0, 0, 0, 3), 1);
        Due.is("0: and none else", w.sees(0, 0, 1, 3), 0);
        w.weather(3, 1);
        Due.is("1: the next one", w.sees(0, 0, 1, 3), 1);
        Due.is("1: not aslant", w.sees(0, 1, 1, 3), 0);
    }

    private static void visibilityUntold() {
        Due.sentence("300 as long as none is told");
        CoastWatch w = onePost(0, 0, 500);
        for (int hour : new int[] {0, 1, 100, 332, 333}) {
            Due.is("300", w.sees(0, 300, 0, hour), 1);
            Due.is("180, 240", w.sees(0, 180, 240, hour), 1);
            Due.is("301", w.sees(0, 301, 0, hour), 0);
        }
        Due.is("refused is not told", w.weather(1, 2001), false);
        Due.is("refused is not told", w.weather(1, -1), false);
        Due.is("300 still", w.sees(0, 300, 0, 1), 1);
        Due.is("301 not", w.sees(0, 301, 0, 1), 0);
    }

    private static void visibilityToldAgain() {
        Due.sentence("told again: that");
        CoastWatch w = onePost(0, 0, 500);
        int[] told = {10, 400, 0, 300, 10};
        for (int far : told) {
            Due.is("told", w.weather(7, far), true);
            Due.is("as far as that", w.sees(0, far, 0, 7), 1);
            Due.is("no farther", w.sees(0, far + 1, 0, 7), 0);
        }
        Due.is("refused", w.weather(7, 2001), false);
        Due.is("as told last", w.sees(0, 10, 0, 7), 1);
        Due.is("as told last", w.sees(0, 11, 0, 7), 0);
    }

    private static void seenAtMostVisibility() {
        Due.sentence("the square of their distance is at most the square of the VISIBILITY");
        CoastWatch w = onePost(1000, 1000, 500);
        w.weather(2, 65);
        int[][] just = {{65, 0}, {0, 65}, {16, 63}, {33, 56}, {25, 60}, {39, 52}};
        for (int[] d : just) {
            Due.is("65", w.sees(0, 1000 + d[0], 1000 + d[1], 2), 1);
            Due.is("65 the other way", w.sees(0, 1000 - d[0], 1000 - d[1], 2), 1);
            Due.is("farther", w.sees(0, 1000 + d[0] + 1, 1000 + d[1], 2), 0);
            Due.is("farther", w.sees(0, 1000 - d[0], 1000 - d[1] - 1, 2), 0);
        }
    }

    private static void seenAtMostHeight() {
        Due.sentence("and 1,274 times the HEIGHT");
        CoastWatch low = onePost(1000, 1000, 1);
        Due.is("1,274", low.sees(0, 1035, 1007, 0), 1);
        Due.is("1,274", low.sees(0, 993, 965, 0), 1);
        Due.is("1,277", low.sees(0, 1034, 1011, 0), 0);
        CoastWatch high = onePost(0, 0, 500);
        high.weather(0, 2000);
        Due.is("637,000", high.sees(0, 798, 14, 0), 1);
        Due.is("637,000", high.sees(0, 14, 798, 0), 1);
        Due.is("637,029", high.sees(0, 798, 15, 0), 0);
        Due.is("8,000,000", high.sees(0, 2000, 2000, 0), 0);
        Due.is("4,000,000 is just the visibility's", high.sees(0, 2000, 0, 0), 0);
    }

    private static void seenAtMostBoth() {
        Due.sentence("at most both the square of the VISIBILITY and 1,274 times the HEIGHT");
        // 1,274 * 26 is the square of 182.
        CoastWatch w = onePost(0, 0, 26);
        w.post(0, 0, 25);
        w.weather(0, 182);
        w.weather(1, 181);
        w.weather(2, 183);
        Due.is("just both", w.sees(0, 182, 0, 0), 1);
        Due.is("neither", w.sees(0, 182, 1, 0), 0);
        Due.is("not the visibility", w.sees(0, 182, 0, 1), 0);
        Due.is("not the height", w.sees(0, 183, 0, 2), 0);
        Due.is("not the height", w.sees(1, 182, 0, 2), 0);
    }

    private static void seesNoSuchPost() {
        Due.sentence("Whether a POST SEES a PLACE. NONE: no such POST");
        Due.refusedOutside("of one", 0, 0, -1, v -> onePost(0, 0, 1).sees(v, 0, 0, 0));
        Due.refusedOutside("of none", 0, -1, -1, v -> new CoastWatch().sees(v, 0, 0, 0));
        Due.is("post 0 of none", new CoastWatch().sees(0, 0, 0, 0), -1);
    }

    private static void mannedOfNothing() {
        Due.sentence("MANNED is the set of POSTS that SEE all REACHES (there are none, or no POSTS)");
        Due.is("no posts, no reaches", new CoastWatch().manned(0), 0);
        CoastWatch reaches = new CoastWatch();
        reaches.reach(5, 5);
        Due.is("no posts", reaches.manned(0), 0);
        Due.is("no posts: open", reaches.open(0), 1);
        CoastWatch posts = onePost(5, 5, 5);
        posts.post(5, 5, 5);
        Due.is("no reaches", posts.manned(333), 0);
        Due.is("no reaches: none open", posts.open(333), 0);
    }

    private static void mannedOnlyWhatIsSeen() {
        Due.sentence("all REACHES that any POST SEES then");
        CoastWatch w = onePost(0, 0, 1);
        w.reach(35, 8);
        Due.is("none is seen", w.manned(0), 0);
        w.reach(35, 7);
        Due.is("one is", w.manned(0), 1);
        w.weather(0, 35);
        Due.is("not in that hour", w.manned(0), 0);
        Due.is("in the next", w.manned(1), 1);
    }

    private static void mannedFewest() {
        Due.sentence("the one with the fewest POSTS");
        CoastWatch w = new CoastWatch();
        w.post(100, 0, 1);
        w.post(200, 0, 1);
        w.post(900, 0, 1);
        w.post(900, 0, 1);
        w.post(900, 0, 1);
        w.post(150, 0, 500);
        w.reach(100, 0);
        w.reach(200, 0);
        Due.is("5 alone (32), not 0 and 1 (3)", w.manned(0), 32);
        w.weather(0, 49);
        Due.is("0 and 1", w.manned(0), 3);
        w.weather(0, 50);
        Due.is("5 alone", w.manned(0), 32);
    }

    private static void mannedLeastBits() {
        Due.sentence("of these the least as bits (POST p bit p)");
        CoastWatch w = new CoastWatch();
        for (int p = 0; p < 6; p++) {
            w.post(100, 100, 1);
        }
        w.reach(100, 100);
        Due.is("of six alike the first", w.manned(0), 1);
        CoastWatch last = new CoastWatch();
        for (int p = 0; p < 6; p++) {
            last.post(p < 4 ? 1000 : 100, 100, 1);
        }
        last.reach(100, 100);
        Due.is("of 4 and 5 alike 4", last.manned(0), 16);
        // {0, 5} is 33 and {1, 4} is 18, though 0 is the least POST.
        CoastWatch pairs = new CoastWatch();
        int[][] at = {{100, 100}, {100, 140}, {1900, 0}, {1900, 0}, {140, 100}, {140, 140}};
        for (int[] place : at) {
            pairs.post(place[0], place[1], 1);
        }
        pairs.reach(100, 120);
        pairs.reach(120, 100);
        pairs.reach(140, 120);
        pairs.reach(120, 140);
        Due.is("two pairs", pairs.manned(0), 18);
    }

    private static void mannedAllSix() {
        Due.sentence("MANNED: POSTS (6 at most), REACHES (8 at most)");
        CoastWatch w = new CoastWatch();
        for (int i = 0; i < 6; i++) {
            w.post(300 * i, 0, 1);
            w.reach(300 * i, 0);
        }
        Due.is("all six", w.manned(0), 63);
        w.reach(0, 1);
        w.reach(1500, 1);
        Due.is("eight reaches", w.manned(0), 63);
        Due.is("none open", w.open(0), 0);
    }

    private static void openBits() {
        Due.sentence("REACHES that no POST SEES in an HOUR, as bits. NONE likewise.");
        CoastWatch w = onePost(0, 0, 1);
        for (int r = 0; r < 7; r++) {
            w.reach(0, r);
        }
        Due.is("none", w.open(0), 0);
        w.reach(0, 36);
        Due.is("the eighth", w.open(0), 128);
        w.weather(0, 3);
        Due.is("the last four", w.open(0), 240);
        w.weather(0, 0);
        Due.is("all but the first", w.open(0), 254);
    }
}
