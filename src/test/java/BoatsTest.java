/** Promises 16 to 18: plans, boats that come in, and what a boat is as known in a minute. */
public final class BoatsTest {
    public static void main(String[] args) {
        planBounds();
        thirtyBoats();
        hundredPlans();
        cameIn();
        states();
        asKnown();
        inAsKnown();
        toldTwiceInOneMinute();
        Due.end();
    }

    private static void planBounds() {
        CoastWatch w = new CoastWatch();
        Due.is("boat below", w.plan(-1, 0, 0, 0), -1);
        Due.is("boat above", w.plan(1, 0, 0, 0), -1);
        Due.is("leaving below", w.plan(0, -1, 0, 0), -1);
        Due.is("leaving above", w.plan(0, 20001, 20001, 0), -1);
        Due.is("due ahead of leaving", w.plan(0, 5, 4, 0), -1);
        Due.is("due above", w.plan(0, 5, 20001, 0), -1);
        Due.is("grace below", w.plan(0, 5, 6, -1), -1);
        Due.is("grace above", w.plan(0, 5, 6, 601), -1);
        Due.is("no boats", w.count(6), 0);
        Due.is("least", w.plan(0, 0, 0, 0), 0);
        Due.is("greatest", w.plan(1, 20000, 20000, 600), 1);
        Due.is("one left out", w.plan(3, 0, 0, 0), -1);
        Due.is("anew", w.plan(0, 5, 6, 7), 0);
        Due.is("two boats", w.count(6), 2);
        w.step(100);
        Due.is("a plan of the past", w.plan(2, 1, 2, 3), 2);
        Due.is("overdue at once", w.boat(2, 100, 100), 3);
    }

    private static void thirtyBoats() {
        CoastWatch w = new CoastWatch();
        for (int b = 0; b < 30; b++) {
            Due.is("boat", w.plan(b, 0, 10, 0), b);
        }
        Due.is("there are 30", w.plan(30, 0, 10, 0), -1);
        Due.is("the last anew", w.plan(29, 0, 5, 0), 29);
        Due.is("30", w.count(6), 30);
        Due.is("no such", w.in(30), false);
        Due.is("no such", w.boat(30, 0, 0), -1);
        w.step(6);
        Due.is("one is overdue", w.count(8), 1);
        w.step(5);
        Due.is("all are overdue", w.count(8), 30);
    }

    private static void hundredPlans() {
        CoastWatch w = new CoastWatch();
        for (int p = 0; p < 100; p++) {
            Due.is("plan", w.plan(p % 3, p, 200, 0), p % 3);
        }
        Due.is("100 were told", w.plan(0, 0, 5, 0), -1);
        Due.is("a new boat, too", w.plan(3, 0, 5, 0), -1);
        Due.is("three boats", w.count(6), 3);
        w.step(98);
        Due.is("the plan told last: 99", w.boat(0, 98, 98), 1);
        Due.is("97", w.boat(1, 97, 98), 2);
        Due.is("97", w.boat(1, 96, 98), 1);
    }

    private static void cameIn() {
        CoastWatch w = new CoastWatch();
        Due.is("no boat", w.in(0), false);
        w.plan(0, 5, 10, 0);
        Due.is("below", w.in(-1), false);
        Due.is("above", w.in(1), false);
        Due.is("ahead of leaving", w.in(0), true);
        Due.is("it is", w.in(0), false);
        Due.is("in minute 0", w.boat(0, 0, 0), 4);
        Due.is("no plan then", w.plan(0, 5, 10, 0), -1);
        Due.is("another boat", w.plan(1, 0, 3, 2), 1);
        w.step(20);
        Due.is("still", w.in(0), false);
        Due.is("overdue", w.count(8), 1);
        Due.is("comes in late", w.in(1), true);
        Due.is("none overdue", w.count(8), 0);
        Due.is("IN", w.boat(1, 20, 20), 4);
        Due.is("was overdue", w.boat(1, 19, 20), 3);
    }

    private static void states() {
        CoastWatch w = new CoastWatch();
        w.step(1);
        w.plan(0, 10, 20, 5);
        w.step(39);
        Due.is("nothing told in 0", w.boat(0, 40, 0), 0);
        Due.is("nothing told in 0", w.boat(0, 0, 0), 0);
        Due.is("of 0 as known in 1", w.boat(0, 0, 1), 1);
        Due.is("ahead of leaving", w.boat(0, 9, 40), 1);
        Due.is("leaving", w.boat(0, 10, 40), 2);
        Due.is("due and grace", w.boat(0, 25, 40), 2);
        Due.is("behind that", w.boat(0, 26, 40), 3);
        Due.is("known early", w.boat(0, 26, 1), 3);
        Due.is("now", w.boat(0, 40, 40), 3);
        Due.is("minute above now", w.boat(0, 41, 40), -1);
        Due.is("known above now", w.boat(0, 40, 41), -1);
        Due.is("minute below", w.boat(0, -1, 40), -1);
        Due.is("known below", w.boat(0, 40, -1), -1);
        Due.is("boat below", w.boat(-1, 40, 40), -1);
        Due.is("boat above", w.boat(1, 40, 40), -1);
    }

    private static void asKnown() {
        CoastWatch w = new CoastWatch();
        w.plan(0, 0, 10, 0);
        w.plan(1, 0, 500, 0);
        w.step(15);
        w.plan(0, 12, 30, 5);
        w.step(25);
        w.plan(0, 39, 50, 0);
        Due.is("by the first", w.boat(0, 11, 14), 3);
        Due.is("by the second", w.boat(0, 11, 15), 1);
        Due.is("by the second", w.boat(0, 35, 39), 2);
        Due.is("by the second", w.boat(0, 36, 39), 3);
        Due.is("by the third", w.boat(0, 36, 40), 1);
        Due.is("by the third", w.boat(0, 39, 40), 2);
        Due.is("a minute behind the known one, by the first", w.boat(0, 40, 14), 3);
        Due.is("another boat's plan is its own", w.boat(1, 40, 40), 2);
    }

    private static void inAsKnown() {
        CoastWatch w = new CoastWatch();
        w.plan(0, 0, 10, 0);
        w.step(20);
        w.in(0);
        w.step(10);
        Due.is("ahead of it", w.boat(0, 19, 30), 3);
        Due.is("from it on", w.boat(0, 20, 30), 4);
        Due.is("from it on", w.boat(0, 30, 20), 4);
        Due.is("not known yet", w.boat(0, 30, 19), 3);
        Due.is("not known yet", w.boat(0, 20, 0), 3);
        Due.is("the rest as ever", w.boat(0, 10, 30), 2);
    }

    private static void toldTwiceInOneMinute() {
        CoastWatch w = new CoastWatch();
        w.plan(0, 0, 10, 0);
        w.plan(0, 0, 0, 0);
        w.step(5);
        Due.is("the last one", w.boat(0, 5, 0), 3);
        Due.is("overdue", w.count(8), 1);
    }
}
