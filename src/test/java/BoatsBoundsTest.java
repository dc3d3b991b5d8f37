/** Each sentence that names a boundary on BOATS in "Terms" 3 and in promises 16 to 18. */
public final class BoatsBoundsTest {
    public static void main(String[] args) {
        nextBoat();
        thirtyBoats();
        leaving();
        due();
        grace();
        planOfOneIn();
        hundredPlans();
        refusedPlanIsNotTold();
        anotherPlanFromThatMinuteOn();
        planToldLast();
        comeInNoSuch();
        comeInOnce();
        nothingTold();
        cameInUpTo();
        cameInAsKnown();
        notOffYet();
        underWay();
        overdue();
        neverOverdue();
        boatNoSuch();
        boatMinutes();
        Due.end();
    }

    private static CoastWatch oneBoat() {
        CoastWatch w = new CoastWatch();
        w.plan(0, 0, 10, 0);
        return w;
    }

    private static void toTheEnd(CoastWatch w) {
        for (int i = 0; i < 6; i++) {
            w.step(3000);
        }
        w.step(2000);
    }

    private static void nextBoat() {
        Due.sentence("a BOAT that there is not yet: the next one. NONE: no such one");
        Due.refusedOutside("of none", 0, 0, -1, v -> new CoastWatch().plan(v, 0, 10, 0));
        Due.refusedOutside("of one", 0, 1, -1, v -> oneBoat().plan(v, 0, 10, 0));
        CoastWatch w = new CoastWatch();
        Due.is("one left out", w.plan(1, 0, 10, 0), -1);
        Due.is("the first", w.plan(0, 0, 10, 0), 0);
        Due.is("one left out", w.plan(2, 0, 10, 0), -1);
        Due.is("the next", w.plan(1, 0, 10, 0), 1);
        Due.is("the first anew", w.plan(0, 0, 10, 0), 0);
        Due.is("two", w.count(6), 2);
    }

    private static void thirtyBoats() {
        Due.sentence("BOATS (30 at most) / NONE: there are 30");
        CoastWatch w = new CoastWatch();
        for (int b = 0; b < 30; b++) {
            Due.is("boat", w.plan(b, 0, b, 0), b);
        }
        Due.is("the next", w.plan(30, 0, 10, 0), -1);
        Due.is("30", w.count(6), 30);
        Due.is("the last anew", w.plan(29, 0, 0, 0), 29);
        Due.is("the next comes not in", w.in(30), false);
        Due.is("the last comes in", w.in(29), true);
        Due.is("the next is nothing", w.boat(30, 0, 0), -1);
        Due.is("no place is free by that", w.plan(30, 0, 10, 0), -1);
        w.step(29);
        Due.is("of 0 .. 28", w.count(8), 29);
    }

    private static void leaving() {
        Due.sentence("NONE: leaving not 0 .. 20,000");
        Due.bounds("leaving", 0, 20000, 0, v -> new CoastWatch().plan(0, v, 20000, 0));
        CoastWatch w = new CoastWatch();
        w.step(100);
        Due.is("it may be gone by", w.plan(0, 0, 20000, 0), 0);
        Due.is("under way at once", w.boat(0, 100, 100), 2);
    }

    private static void due() {
        Due.sentence("NONE: due not from it to 20,000");
        Due.bounds("due", 0, 20000, 0, v -> new CoastWatch().plan(0, 0, v, 0));
        Due.bounds("due", 777, 20000, 0, v -> new CoastWatch().plan(0, 777, v, 0));
        Due.bounds("due", 20000, 20000, 0, v -> new CoastWatch().plan(0, 20000, v, 0));
        Due.is("both below", new CoastWatch().plan(0, -5, -4, 0), -1);
        Due.is("both above", new CoastWatch().plan(0, 20001, 20002, 0), -1);
    }

    private static void grace() {
        Due.sentence("a grace (0 .. 600) / NONE: grace");
        Due.bounds("grace", 0, 600, 0, v -> new CoastWatch().plan(0, 5, 6, v));
        Due.is("due and grace may be above 20,000", new CoastWatch().plan(0, 5, 20000, 600), 0);
    }

    private static void planOfOneIn() {
        Due.sentence("NONE: it is IN");
        CoastWatch w = oneBoat();
        w.in(0);
        Due.is("in that minute", w.plan(0, 0, 10, 0), -1);
        Due.is("the next boat may", w.plan(1, 0, 10, 0), 1);
        w.step(100);
        Due.is("later", w.plan(0, 200, 210, 0), -1);
        Due.is("it stays IN", w.boat(0, 100, 100), 4);
        Due.is("the other may", w.plan(1, 200, 210, 0), 1);
    }

    private static void hundredPlans() {
        Due.sentence("NONE: 100 PLANS were told");
        CoastWatch w = new CoastWatch();
        for (int p = 0; p < 99; p++) {
            Due.is("plan", w.plan(p % 2, 0, 10, 0), p % 2);
        }
        Due.is("refused ones do not count", w.plan(0, 0, 10, 601), -1);
        Due.is("refused ones do not count", w.plan(3, 0, 10, 0), -1);
        Due.is("the last", w.plan(2, 0, 10, 0), 2);
        Due.is("the next", w.plan(0, 0, 20, 0), -1);
        Due.is("of a new boat", w.plan(3, 0, 20, 0), -1);
        Due.is("three boats", w.count(6), 3);
        w.step(11);
        Due.is("by the last ones", w.count(8), 3);
        Due.is("later, too", w.plan(1, 0, 20, 0), -1);
        Due.is("they come in still", w.in(1), true);
        CoastWatch one = new CoastWatch();
        for (int p = 0; p < 100; p++) {
            Due.is("plan of one boat", one.plan(0, p, 100, 0), 0);
        }
        Due.is("the next of one boat", one.plan(0, 0, 100, 0), -1);
        one.step(99);
        Due.is("by the last one", one.boat(0, 98, 99), 1);
        Due.is("by the last one", one.boat(0, 99, 99), 2);
    }

    private static void refusedPlanIsNotTold() {
        Due.sentence("What is refused changes nothing. (a PLAN)");
        CoastWatch w = oneBoat();
        w.plan(0, 0, 100, 601);
        w.plan(0, 0, 20001, 0);
        w.plan(0, 101, 100, 0);
        w.plan(0, -1, 100, 0);
        w.plan(2, 0, 100, 0);
        w.step(11);
        Due.is("overdue by the first", w.boat(0, 11, 11), 3);
        Due.is("one boat", w.count(6), 1);
    }

    private static void anotherPlanFromThatMinuteOn() {
        Due.sentence("told anew it is another PLAN from that MINUTE on");
        CoastWatch w = oneBoat();
        w.step(20);
        w.plan(0, 5, 30, 3);
        w.step(20);
        Due.is("as known ahead of it", w.boat(0, 20, 19), 3);
        Due.is("as known in it", w.boat(0, 20, 20), 2);
        Due.is("as known in it, of a minute ahead", w.boat(0, 11, 20), 2);
        Due.is("as known in it, of a minute ahead", w.boat(0, 4, 20), 1);
        Due.is("as known ahead of it", w.boat(0, 4, 19), 2);
        Due.is("as known behind it", w.boat(0, 33, 40), 2);
        Due.is("as known behind it", w.boat(0, 34, 40), 3);
    }

    private static void planToldLast() {
        Due.sentence("else by the PLAN told last");
        CoastWatch w = new CoastWatch();
        w.plan(0, 0, 10, 0);
        w.plan(0, 0, 20, 0);
        w.plan(0, 0, 15, 0);
        w.step(30);
        Due.is("of three in one minute the third", w.boat(0, 15, 0), 2);
        Due.is("of three in one minute the third", w.boat(0, 16, 0), 3);
        w.plan(1, 0, 29, 0);
        Due.is("another boat's is not its own", w.boat(0, 16, 30), 3);
        Due.is("an earlier boat's is not its own", w.boat(1, 29, 30), 2);
    }

    private static void comeInNoSuch() {
        Due.sentence("A BOAT comes IN, NOW. False: no such one");
        Due.refusedOutside("of none", 0, -1, 0, v -> Due.yes(new CoastWatch().in(v)));
        Due.refusedOutside("of one", 0, 0, 0, v -> Due.yes(oneBoat().in(v)));
        Due.is("of one", oneBoat().in(0), true);
    }

    private static void comeInOnce() {
        Due.sentence("They may come IN, once. / False: or it is.");
        CoastWatch w = oneBoat();
        w.plan(1, 0, 10, 0);
        w.step(5);
        Due.is("comes in", w.in(0), true);
        Due.is("again", w.in(0), false);
        w.step(5);
        Due.is("later", w.in(0), false);
        Due.is("in minute 5 still", w.boat(0, 5, 10), 4);
        Due.is("not ahead of it", w.boat(0, 4, 10), 2);
        Due.is("another one may", w.in(1), true);
        Due.is("another one again", w.in(1), false);
        CoastWatch last = oneBoat();
        toTheEnd(last);
        Due.is("in the last minute", last.in(0), true);
        Due.is("IN", last.boat(0, 20000, 20000), 4);
        Due.is("overdue until then", last.boat(0, 19999, 20000), 3);
    }

    private static void nothingTold() {
        Due.sentence("0 nothing told");
        CoastWatch w = new CoastWatch();
        w.step(7);
        w.plan(0, 0, 3, 0);
        w.step(3);
        Due.is("as known a minute ahead", w.boat(0, 7, 6), 0);
        Due.is("as known at first", w.boat(0, 10, 0), 0);
        Due.is("as known when told", w.boat(0, 7, 7), 3);
        Due.is("as known when told, of a minute ahead", w.boat(0, 0, 7), 2);
        w.in(0);
        Due.is("it came IN, but nothing was told then", w.boat(0, 10, 6), 0);
    }

    private static void cameInUpTo() {
        Due.sentence("4 IN, if it came IN in a MINUTE up to m");
        CoastWatch w = new CoastWatch();
        w.plan(0, 8, 20, 0);
        w.plan(1, 8, 10, 0);
        w.plan(2, 8, 20, 0);
        w.step(5);
        w.in(0);
        w.step(10);
        w.in(1);
        w.in(2);
        w.step(10);
        Due.is("a minute ahead: not off yet", w.boat(0, 4, 25), 1);
        Due.is("in it", w.boat(0, 5, 25), 4);
        Due.is("behind it, though it would be under way", w.boat(0, 8, 25), 4);
        Due.is("behind it, though it would be overdue", w.boat(0, 21, 25), 4);
        Due.is("a minute ahead: overdue", w.boat(1, 14, 25), 3);
        Due.is("in it", w.boat(1, 15, 25), 4);
        Due.is("a minute ahead: under way", w.boat(2, 14, 25), 2);
        Due.is("in it", w.boat(2, 15, 25), 4);
        CoastWatch zero = oneBoat();
        zero.in(0);
        Due.is("in minute 0", zero.boat(0, 0, 0), 4);
    }

    private static void cameInAsKnown() {
        Due.sentence("as known in a MINUTE q (what was told in MINUTES up to q)");
        CoastWatch w = oneBoat();
        w.step(15);
        w.in(0);
        w.step(5);
        Due.is("a minute ahead", w.boat(0, 15, 14), 3);
        Due.is("a minute ahead, of a later one", w.boat(0, 20, 14), 3);
        Due.is("in it", w.boat(0, 15, 15), 4);
        Due.is("in it, of a later one", w.boat(0, 20, 15), 4);
        Due.is("in it, of an earlier one", w.boat(0, 14, 15), 3);
        Due.is("behind it", w.boat(0, 15, 20), 4);
    }

    private static void notOffYet() {
        Due.sentence("1 not off yet: m is ahead of leaving");
        CoastWatch w = new CoastWatch();
        w.plan(0, 5, 10, 0);
        w.plan(1, 0, 10, 0);
        w.plan(2, 20000, 20000, 0);
        Due.is("off in minute 0", w.boat(1, 0, 0), 2);
        toTheEnd(w);
        Due.is("a minute ahead", w.boat(0, 4, 20000), 1);
        Due.is("in it", w.boat(0, 5, 20000), 2);
        Due.is("a minute ahead of the last", w.boat(2, 19999, 20000), 1);
        Due.is("in the last", w.boat(2, 20000, 20000), 2);
    }

    private static void underWay() {
        Due.sentence("2 UNDER WAY: up to due and grace");
        CoastWatch w = new CoastWatch();
        w.plan(0, 5, 10, 0);
        w.plan(1, 5, 10, 600);
        w.plan(2, 5, 5, 0);
        w.step(700);
        Due.is("due, no grace", w.boat(0, 10, 700), 2);
        Due.is("due", w.boat(1, 10, 700), 2);
        Due.is("due and grace", w.boat(1, 610, 700), 2);
        Due.is("one minute alone", w.boat(2, 4, 700), 1);
        Due.is("one minute alone", w.boat(2, 5, 700), 2);
        Due.is("one minute alone", w.boat(2, 6, 700), 3);
    }

    private static void overdue() {
        Due.sentence("3 OVERDUE: behind that");
        CoastWatch w = new CoastWatch();
        w.plan(0, 5, 10, 0);
        w.plan(1, 5, 10, 600);
        w.plan(2, 0, 0, 0);
        Due.is("none yet", w.count(8), 0);
        w.step(1);
        Due.is("2 in minute 1", w.count(8), 1);
        w.step(9);
        Due.is("in minute 10", w.count(8), 1);
        w.step(1);
        Due.is("in minute 11", w.count(8), 2);
        Due.is("behind due", w.boat(0, 11, 11), 3);
        w.step(599);
        Due.is("in minute 610", w.count(8), 2);
        w.step(1);
        Due.is("in minute 611", w.count(8), 3);
        Due.is("behind due and grace", w.boat(1, 611, 611), 3);
    }

    private static void neverOverdue() {
        Due.sentence("MINUTES are 0 .. 20,000 (due and grace may be behind them)");
        CoastWatch w = new CoastWatch();
        w.plan(0, 0, 20000, 0);
        w.plan(1, 0, 20000, 600);
        w.plan(2, 0, 19999, 0);
        w.plan(3, 0, 19399, 600);
        toTheEnd(w);
        Due.is("up to the last", w.boat(0, 20000, 20000), 2);
        Due.is("and beyond", w.boat(1, 20000, 20000), 2);
        Due.is("behind the last but one", w.boat(2, 20000, 20000), 3);
        Due.is("behind the last but one with grace", w.boat(3, 20000, 20000), 3);
        Due.is("two", w.count(8), 2);
    }

    private static void boatNoSuch() {
        Due.sentence("What a BOAT is. NONE: no such.");
        Due.refusedOutside("of none", 0, -1, -1, v -> new CoastWatch().boat(v, 0, 0));
        Due.refusedOutside("of one", 0, 0, -1, v -> oneBoat().boat(v, 0, 0));
        Due.is("of one", oneBoat().boat(0, 0, 0), 2);
    }

    private static CoastWatch atTwenty() {
        CoastWatch w = oneBoat();
        w.plan(0, 0, 50, 0);
        w.step(20);
        return w;
    }

    private static void boatMinutes() {
        Due.sentence("at a MINUTE, as known in one (both 0 .. NOW)");
        Due.bounds("minute", 0, 20, 2, v -> atTwenty().boat(0, v, 20));
        Due.bounds("known", 0, 20, 2, v -> atTwenty().boat(0, 20, v));
        Due.bounds("both", 0, 20, 2, v -> atTwenty().boat(0, v, v));
        Due.bounds("both", 0, 0, 2, v -> oneBoat().boat(0, v, v));
        CoastWatch w = oneBoat();
        toTheEnd(w);
        Due.is("the last", w.boat(0, 20000, 20000), 3);
        Due.is("behind it", w.boat(0, 20001, 20000), -1);
        Due.is("known behind it", w.boat(0, 20000, 20001), -1);
    }
}
