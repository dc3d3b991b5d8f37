import java.util.ArrayList;
import java.util.List;
import java.util.function.Consumer;
import java.util.function.ToLongFunction;

/**
 * "What is refused answers as told and changes nothing." For each cause that promises 2 to 22 name:
 * the call's answer, and then whatever is asked and told is answered as by an object that was not
 * asked for what is refused. Each look is at a new object, as one has 512 calls.
 */
public final class RefusedTest {
    private static final int LOW = Integer.MIN_VALUE;
    private static final int HIGH = Integer.MAX_VALUE;

    private final String state;
    private final Consumer<Run> before;
    private final List<List<Long>> due = new ArrayList<>();

    private RefusedTest(String state, Consumer<Run> before) {
        this.state = state;
        this.before = before;
        for (Consumer<Run> look : looks()) {
            due.add(answersOf(look, null));
        }
    }

    public static void main(String[] args) {
        Due.sentence("What is refused answers as told and changes nothing.");
        RefusedTest empty = new RefusedTest("new", r -> { });
        RefusedTest busy = new RefusedTest("busy", RefusedTest::busy);
        for (RefusedTest t : new RefusedTest[] {empty, busy}) {
            t.lookouts();
            t.sightings();
            t.plots();
            t.boats();
            t.calls();
        }
        empty.ofNothing();
        busy.ofWhatThereIsNot();
        busy.shapesThatAreNone();
        full();
        Due.end();
    }

    /** Something of everything, with room for more. */
    private static void busy(Run r) {
        r.post(100, 100, 20);
        r.post(200, 100, 1);
        r.post(200, 100, 300);
        r.reach(100, 120);
        r.reach(200, 130);
        r.reach(1500, 100);
        r.weather(0, 150);
        r.weather(2, 25);
        r.sight(0, 2, 1, 1, 2);
        r.sight(1, -1, 2, -2, 1);
        r.sight(1, 1, 0, 0, 1);
        r.sight(2, -1, -2, 1, -2);
        r.plotted(0, 1);
        r.speed(12);
        r.plan(0, 0, 5, 0);
        r.plan(1, 3, 20, 10);
        r.plan(2, 0, 2, 1);
        r.call(0, 0);
        r.call(3, 9);
        r.step(8);
        r.in(2);
        r.sight(0, 2, 1, 1, 2);
        r.sight(1, -1, 2, -2, 1);
        r.plotted(5, 4);
        r.plan(1, 4, 22, 10);
        r.sight(2, -1, 2, -2, 1);
    }

    /** What is asked behind the refused call, and what is told then, so that hidden state shows, too. */
    private static List<Consumer<Run>> looks() {
        return List.of(RefusedTest::lookAtCounts, RefusedTest::lookAtLookouts, RefusedTest::lookAtPlots,
            RefusedTest::lookAtBoats, RefusedTest::lookAtCalls);
    }

    private static void lookAtCounts(Run r) {
        for (int what = 0; what < 9; what++) {
            r.count(what);
        }
        for (int p = 0; p < 4; p++) {
            for (int what = 0; what < 4; what++) {
                r.track(p, what);
            }
        }
        for (int i = 0; i < 12; i++) {
            for (int what = 0; what < 3; what++) {
                r.log(i, what);
            }
        }
    }

    private static void lookAtLookouts(Run r) {
        for (int hour : new int[] {0, 1, 2, 3, 333}) {
            r.manned(hour);
            r.open(hour);
            for (int p = 0; p < 6; p++) {
                r.sees(p, 100, 120, hour);
                r.sees(p, 200, 135, hour);
                r.sees(p, 350, 100, hour);
            }
        }
        r.reach(0, 0);
        r.post(0, 0, 1);
        r.post(1500, 110, 2);
        r.open(1);
        r.manned(1);
        r.count(1);
        r.count(2);
    }

    private static void lookAtPlots(Run r) {
        for (int one = 0; one < 8; one++) {
            for (int other = 0; other < 8; other++) {
                r.plot(one, other);
            }
        }
        for (int what = 0; what < 4; what++) {
            r.corner(0, 1, 2, what);
            r.box(4, 5, what);
        }
        r.plotted(0, 1);
        r.plotted(4, 6);
        r.step(1);
        r.post(100, 100, 5);
        r.post(220, 100, 5);
        for (int p = 0; p < 6; p++) {
            r.sight(p, 2, 1, 1, 2);
            r.sight(p, -1, 2, -2, 1);
        }
        for (int other = 0; other < 20; other++) {
            r.plotted(other, other + 1);
            r.plotted(other, other + 3);
        }
        r.count(3);
        r.count(4);
        r.count(5);
    }

    private static void lookAtBoats(Run r) {
        for (int b = 0; b < 4; b++) {
            for (int i = 0; i < 49; i++) {
                r.boat(b, i % 7 * 3 / 2, i / 7 * 3 / 2);
            }
        }
        r.plan(0, 0, 5, 2);
        r.plan(3, 0, 0, 0);
        r.plan(4, 0, 0, 0);
        r.in(2);
        r.in(1);
        r.step(30);
        r.count(6);
        r.count(8);
        for (int b = 0; b < 5; b++) {
            r.boat(b, 15, 20);
            r.boat(b, 30, 30);
        }
    }

    private static void lookAtCalls(Run r) {
        int[] steps = {1, 1, 2, 5, 30, 500, 3000};
        for (int n : steps) {
            r.step(n);
            r.count(7);
            r.count(8);
        }
        r.plan(0, 0, (int) r.count(0), 0);
        r.step(2500);
        r.count(7);
        for (int i = 0; i < 20; i++) {
            for (int what = 0; what < 3; what++) {
                r.log(i, what);
            }
        }
    }

    private List<Long> answersOf(Consumer<Run> look, ToLongFunction<Run> refused) {
        Run r = new Run();
        before.accept(r);
        if (refused != null) {
            refused.applyAsLong(r);
        }
        int told = r.answers.size();
        look.accept(r);
        return r.answers.subList(told, r.answers.size());
    }

    private void check(String call, long answer, ToLongFunction<Run> refused) {
        Run r = new Run();
        before.accept(r);
        Due.is(state + ": " + call, refused.applyAsLong(r), answer);
        List<Consumer<Run>> looks = looks();
        for (int i = 0; i < looks.size(); i++) {
            boolean same = answersOf(looks.get(i), refused).equals(due.get(i));
            Due.is(state + ": " + call + " changes nothing, look " + i, same, true);
        }
    }

    private void none(String call, ToLongFunction<Run> refused) {
        check(call, -1, refused);
    }

    private void no(String call, ToLongFunction<Run> refused) {
        check(call, 0, refused);
    }

    private void thrown(String call, ToLongFunction<Run> refused) {
        check(call, Run.THROWN, refused);
    }

    private static int[] outside(int least, int greatest) {
        return new int[] {LOW, least - 1, greatest + 1, HIGH};
    }

    private void lookouts() {
        for (int v : outside(0, 2000)) {
            none("post x " + v, r -> r.post(v, 50, 5));
            none("post y " + v, r -> r.post(50, v, 5));
            none("reach x " + v, r -> r.reach(v, 50));
            none("reach y " + v, r -> r.reach(50, v));
            none("sees x " + v, r -> r.sees(0, v, 50, 0));
            none("sees y " + v, r -> r.sees(0, 50, v, 0));
            no("visibility " + v, r -> r.weather(2, v));
        }
        for (int v : outside(1, 500)) {
            none("height " + v, r -> r.post(50, 50, v));
        }
        for (int v : outside(0, 333)) {
            no("weather hour " + v, r -> r.weather(v, 5));
            none("sees hour " + v, r -> r.sees(0, 50, 50, v));
            none("manned " + v, r -> r.manned(v));
            none("open " + v, r -> r.open(v));
        }
    }

    private void sightings() {
        for (int v : outside(-50, 50)) {
            none("a " + v, r -> r.sight(0, v, -50, 50, 0));
            none("b " + v, r -> r.sight(0, 50, v, 0, 50));
            none("c " + v, r -> r.sight(0, 50, 0, v, 50));
            none("d " + v, r -> r.sight(0, 0, -50, 50, v));
        }
        none("first of no length", r -> r.sight(0, 0, 0, 1, 0));
        none("second of no length", r -> r.sight(0, 1, 0, 0, 0));
        none("turned by nothing", r -> r.sight(0, 1, 2, 2, 4));
        none("turned by half a round", r -> r.sight(0, 1, 2, -2, -4));
        none("turned to the right", r -> r.sight(0, 0, 1, 1, 0));
        for (int v : new int[] {LOW, -1, 3, 6, HIGH}) {
            none("sight from " + v, r -> r.sight(v, 1, 0, 0, 1));
            none("sees from " + v, r -> r.sees(v, 50, 50, 0));
        }
    }

    private void plots() {
        for (int v : new int[] {LOW, -1, 7, 100, HIGH}) {
            none("plot one " + v, r -> r.plot(v, 1));
            none("plot other " + v, r -> r.plot(0, v));
            none("corners one " + v, r -> r.corners(v, 1));
            none("corners other " + v, r -> r.corners(0, v));
            thrown("corner one " + v, r -> r.corner(v, 1, 0, 0));
            thrown("corner other " + v, r -> r.corner(0, v, 0, 0));
            thrown("corner i " + v, r -> r.corner(0, 1, v, 0));
            thrown("corner what " + v, r -> r.corner(0, 1, 0, v));
            thrown("box one " + v, r -> r.box(v, 1, 0));
            thrown("box other " + v, r -> r.box(0, v, 0));
            thrown("box what " + v, r -> r.box(0, 1, v));
            none("plotted one " + v, r -> r.plotted(v, 1));
            none("plotted other " + v, r -> r.plotted(0, v));
            none("track of " + v, r -> r.track(v, 0));
            none("track what " + v, r -> r.track(0, v));
        }
        thrown("corner i 4", r -> r.corner(0, 1, 4, 0));
        thrown("corner what 4", r -> r.corner(0, 1, 0, 4));
        thrown("box what 4", r -> r.box(0, 1, 4));
        none("track what 4", r -> r.track(0, 4));
        none("track 2", r -> r.track(2, 0));
        for (int v : outside(1, 100)) {
            no("speed " + v, r -> r.speed(v));
        }
    }

    private void boats() {
        for (int v : new int[] {LOW, -1, 4, 30, HIGH}) {
            none("plan of " + v, r -> r.plan(v, 0, 50, 0));
            no("in " + v, r -> r.in(v));
            none("boat " + v, r -> r.boat(v, 0, 0));
        }
        for (int v : outside(0, 20000)) {
            none("leaving " + v, r -> r.plan(0, v, 20000, 0));
            none("due " + v, r -> r.plan(0, 0, v, 0));
            none("both " + v, r -> r.plan(0, v, v, 0));
        }
        none("due ahead of leaving", r -> r.plan(0, 10, 9, 0));
        for (int v : outside(0, 600)) {
            none("grace " + v, r -> r.plan(0, 0, 50, v));
        }
        for (int v : new int[] {LOW, -1, 9, 20001, HIGH}) {
            none("boat at " + v, r -> r.boat(0, v, 0));
            none("boat as known in " + v, r -> r.boat(0, 0, v));
        }
    }

    private void calls() {
        for (int v : outside(0, 4)) {
            no("rule " + v, r -> r.call(v, 5));
        }
        for (int v : outside(-1, 2000)) {
            no("minutes " + v, r -> r.call(0, v));
        }
        for (int v : outside(0, 3000)) {
            none("step " + v, r -> r.step(v));
        }
        for (int v : new int[] {LOW, -1, 4, 300, HIGH}) {
            none("log " + v, r -> r.log(v, 0));
            none("log what " + v, r -> r.log(0, v));
        }
        none("log what 3", r -> r.log(0, 3));
        for (int v : outside(0, 8)) {
            none("count " + v, r -> r.count(v));
        }
    }

    private void ofNothing() {
        none("sees", r -> r.sees(0, 0, 0, 0));
        none("sight", r -> r.sight(0, 1, 0, 0, 1));
        none("plot", r -> r.plot(0, 1));
        none("corners", r -> r.corners(0, 1));
        thrown("corner", r -> r.corner(0, 1, 0, 0));
        thrown("box", r -> r.box(0, 1, 0));
        none("plotted", r -> r.plotted(0, 1));
        none("track", r -> r.track(0, 0));
        none("plan of the next but one", r -> r.plan(1, 0, 5, 0));
        no("in", r -> r.in(0));
        none("boat", r -> r.boat(0, 0, 0));
        none("log", r -> r.log(0, 0));
    }

    private void ofWhatThereIsNot() {
        none("sees", r -> r.sees(3, 0, 0, 0));
        none("sight", r -> r.sight(3, 1, 0, 0, 1));
        none("plot", r -> r.plot(6, 7));
        none("track", r -> r.track(2, 0));
        none("plan of the next but one", r -> r.plan(4, 0, 50, 0));
        none("plan of one that is IN", r -> r.plan(2, 0, 50, 0));
        no("in again", r -> r.in(2));
        no("in of the next", r -> r.in(3));
        none("boat", r -> r.boat(3, 0, 0));
        none("boat behind NOW", r -> r.boat(0, 9, 8));
        none("as known behind NOW", r -> r.boat(0, 8, 9));
        none("log", r -> r.log(2, 0));
    }

    private void shapesThatAreNone() {
        // 0 and 3 have no points, 0 and 2 are endless, 1 and 2 are from one place, 0 and 5 of two minutes.
        int[][] pairs = {{0, 3}, {0, 2}, {1, 2}, {1, 3}, {0, 5}, {4, 1}, {0, 0}};
        int[] kinds = {0, 2, -1, -1, -1, -1, -1};
        for (int i = 0; i < pairs.length; i++) {
            int[] p = pairs[i];
            check("plot " + p[0] + ", " + p[1], kinds[i], r -> r.plot(p[0], p[1]));
            none("corners " + p[0] + ", " + p[1], r -> r.corners(p[0], p[1]));
            thrown("corner " + p[0] + ", " + p[1], r -> r.corner(p[0], p[1], 0, 0));
            thrown("box " + p[0] + ", " + p[1], r -> r.box(p[0], p[1], 0));
            none("plotted " + p[0] + ", " + p[1], r -> r.plotted(p[0], p[1]));
        }
        none("plotted already", r -> r.plotted(0, 1));
        none("plotted already, the other way round", r -> r.plotted(1, 0));
        none("plotted already", r -> r.plotted(5, 4));
        none("plotted already, the other way round", r -> r.plotted(4, 5));
    }

    /** Each store full, and the one call more. */
    private static void full() {
        new RefusedTest("six posts", r -> {
            for (int p = 0; p < 6; p++) {
                r.post(100 * p, 100, 5);
            }
        }).none("the seventh", r -> r.post(50, 50, 5));
        new RefusedTest("eight reaches", r -> {
            for (int i = 0; i < 8; i++) {
                r.reach(100 * i, 100);
            }
        }).none("the ninth", r -> r.reach(50, 50));
        new RefusedTest("100 sightings", r -> sightings(r, 100)).none("one more", r -> r.sight(0, 1, 0, 1, 1));
        new RefusedTest("60 plots", r -> {
            sightings(r, 16);
            for (int i = 0; i < 60; i++) {
                r.plotted(i / 8 * 2, i % 8 * 2 + 1);
            }
        }).none("one more", r -> r.plotted(14, 15));
        new RefusedTest("30 boats", r -> {
            for (int b = 0; b < 30; b++) {
                r.plan(b, 0, b, 0);
            }
            r.call(1, 1);
        }).none("one more", r -> r.plan(30, 0, 5, 0));
        RefusedTest plans = new RefusedTest("100 plans", r -> {
            for (int p = 0; p < 100; p++) {
                r.plan(p % 3, 0, p, 0);
            }
            r.call(1, 1);
        });
        plans.none("one more", r -> r.plan(0, 0, 5, 0));
        plans.none("one more of a new boat", r -> r.plan(3, 0, 5, 0));
        RefusedTest late = new RefusedTest("minute 19,998", r -> {
            r.plan(0, 0, 19998, 0);
            r.call(0, 0);
            r.call(1, 1);
            for (int i = 0; i < 6; i++) {
                r.step(3000);
            }
            r.step(1998);
        });
        late.none("three more", r -> r.step(3));
        late.none("3,000 more", r -> r.step(3000));
    }

    private static void sightings(Run r, int many) {
        r.post(100, 100, 5);
        r.post(200, 100, 5);
        for (int i = 0; i < many; i++) {
            int way = i % 2 == 0 ? 1 : -1;
            r.sight(i % 2, way, 0, way, way);
        }
    }
}
