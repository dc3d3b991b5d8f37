/** Promises 19 to 22: the rules of calls, minutes that go by, the log, and counts. */
public final class CallsTest {
    public static void main(String[] args) {
        callBounds();
        stepBounds();
        order();
        manyMinutesAtOnce();
        ruleToldAgain();
        planToldAnew();
        cameIn();
        minuteZero();
        longestWait();
        eachInAMinuteOfItsOwn();
        threeHundredLines();
        counts();
        Due.end();
    }

    private static void line(CoastWatch w, int i, int... due) {
        for (int what = 0; what < 3; what++) {
            Due.is("log " + i + ", " + what, w.log(i, what), due[what]);
        }
    }

    private static void callBounds() {
        CoastWatch w = new CoastWatch();
        Due.is("rule below", w.call(-1, 0), false);
        Due.is("rule above", w.call(5, 0), false);
        Due.is("minutes below", w.call(0, -2), false);
        Due.is("minutes above", w.call(0, 2001), false);
        w.plan(0, 0, 0, 0);
        w.step(10);
        Due.is("no rules at first", w.count(7), 0);
        Due.is("none", w.call(0, CoastWatch.NONE), true);
        Due.is("greatest", w.call(4, 2000), true);
        Due.is("least", w.call(0, 0), true);
    }

    private static void stepBounds() {
        CoastWatch w = new CoastWatch();
        Due.is("below", w.step(-1), -1);
        Due.is("above", w.step(3001), -1);
        Due.is("would wrap", w.step(Integer.MAX_VALUE), -1);
        Due.is("none", w.step(0), 0);
        for (int i = 1; i <= 6; i++) {
            Due.is("3000", w.step(3000), 3000 * i);
        }
        Due.is("too far", w.step(2001), -1);
        Due.is("still", w.count(0), 18000);
        Due.is("to the end", w.step(2000), 20000);
        Due.is("no more", w.step(1), -1);
        Due.is("none", w.step(0), 20000);
        Due.is("now", w.count(0), 20000);
    }

    private static void order() {
        CoastWatch w = new CoastWatch();
        w.plan(0, 0, 6, 0);
        w.plan(1, 0, 5, 0);
        w.plan(2, 0, 2, 4);
        w.call(3, 0);
        w.call(1, 1);
        w.call(2, 0);
        w.step(8);
        Due.is("calls", w.count(7), 9);
        line(w, 0, 1, 2, 6);
        line(w, 1, 1, 3, 6);
        line(w, 2, 0, 2, 7);
        line(w, 3, 0, 3, 7);
        line(w, 4, 1, 1, 7);
        line(w, 5, 2, 2, 7);
        line(w, 6, 2, 3, 7);
        line(w, 7, 0, 1, 8);
        line(w, 8, 2, 1, 8);
        Due.is("no more", w.log(9, 0), -1);
        Due.is("below", w.log(-1, 0), -1);
        Due.is("what below", w.log(0, -1), -1);
        Due.is("what above", w.log(0, 3), -1);
    }

    private static void manyMinutesAtOnce() {
        CoastWatch once = new CoastWatch();
        CoastWatch each = new CoastWatch();
        for (int b = 0; b < 10; b++) {
            once.plan(b, 0, 7 * b % 10, b % 4);
            each.plan(b, 0, 7 * b % 10, b % 4);
        }
        for (int k = 0; k < 5; k++) {
            once.call(k, 3 * k % 7);
            each.call(k, 3 * k % 7);
        }
        once.step(40);
        for (int m = 0; m < 40; m++) {
            each.step(1);
        }
        Due.is("all of them", once.count(7), 50);
        Due.is("likewise", each.count(7), 50);
        for (int i = 0; i < 50; i++) {
            line(once, i, each.log(i, 0), each.log(i, 1), each.log(i, 2));
        }
    }

    private static void ruleToldAgain() {
        CoastWatch w = new CoastWatch();
        w.plan(0, 0, 5, 0);
        w.call(0, 2);
        w.step(8);
        line(w, 0, 0, 0, 8);
        w.call(0, 5);
        w.step(2);
        Due.is("not yet", w.count(7), 1);
        w.step(1);
        line(w, 1, 0, 0, 11);
        w.call(0, 3);
        w.step(10);
        Due.is("gone by", w.count(7), 2);
        w.call(0, 30);
        w.call(0, CoastWatch.NONE);
        w.step(100);
        Due.is("none", w.count(7), 2);
        line(w, 0, 0, 0, 8);
    }

    private static void planToldAnew() {
        CoastWatch w = new CoastWatch();
        w.call(0, 0);
        w.call(1, 10);
        w.plan(0, 0, 5, 0);
        w.step(7);
        Due.is("one", w.count(7), 1);
        w.plan(0, 0, 20, 0);
        w.step(14);
        line(w, 1, 0, 0, 21);
        Due.is("the old plan's second call is none", w.count(7), 2);
        w.plan(0, 0, 12, 0);
        w.step(2);
        line(w, 2, 0, 1, 23);
        w.plan(0, 0, 12, 0);
        w.step(100);
        Due.is("behind both", w.count(7), 3);
    }

    private static void cameIn() {
        CoastWatch w = new CoastWatch();
        w.call(0, 0);
        w.call(1, 3);
        w.plan(0, 0, 5, 0);
        w.plan(1, 0, 5, 0);
        w.step(6);
        Due.is("both", w.count(7), 2);
        w.in(0);
        w.step(10);
        Due.is("one more", w.count(7), 3);
        line(w, 2, 1, 1, 9);
    }

    private static void minuteZero() {
        CoastWatch w = new CoastWatch();
        w.plan(0, 0, 0, 0);
        w.call(0, 0);
        w.step(0);
        Due.is("none goes by", w.count(7), 0);
        w.step(1);
        line(w, 0, 0, 0, 1);
        w.plan(1, 0, 0, 0);
        w.step(0);
        w.step(1);
        Due.is("minute 1 is gone", w.count(7), 1);
    }

    private static void longestWait() {
        CoastWatch w = new CoastWatch();
        w.plan(0, 0, 17399, 600);
        w.plan(1, 0, 20000, 0);
        w.plan(2, 0, 17399, 599);
        w.call(0, 2000);
        w.call(1, 0);
        for (int i = 0; i < 6; i++) {
            w.step(3000);
        }
        Due.is("up to 18,000", w.count(7), 2);
        line(w, 0, 2, 1, 17999);
        line(w, 1, 0, 1, 18000);
        w.step(2000);
        Due.is("at the last minute, too", w.count(7), 4);
        line(w, 2, 2, 0, 19999);
        line(w, 3, 0, 0, 20000);
        Due.is("due at the last minute: never overdue", w.boat(1, 20000, 20000), 2);
    }

    private static void eachInAMinuteOfItsOwn() {
        CoastWatch w = new CoastWatch();
        for (int b = 0; b < 30; b++) {
            w.plan(b, 0, 10 * b, 0);
        }
        for (int k = 0; k < 5; k++) {
            w.call(k, k);
        }
        w.step(3000);
        Due.is("all in one step", w.count(7), 150);
        for (int i = 0; i < 150; i++) {
            line(w, i, i / 5, i % 5, 10 * (i / 5) + 1 + i % 5);
        }
    }

    private static void threeHundredLines() {
        CoastWatch w = new CoastWatch();
        for (int b = 0; b < 30; b++) {
            w.plan(b, 0, 0, 0);
        }
        for (int round = 0; round < 3; round++) {
            for (int k = 0; k < 5; k++) {
                w.call(k, 10 * round + k);
            }
            w.step(10);
        }
        Due.is("in all", w.count(7), 450);
        line(w, 0, 0, 0, 1);
        line(w, 149, 29, 4, 5);
        line(w, 150, 0, 0, 11);
        line(w, 299, 29, 4, 15);
        Due.is("not kept", w.log(300, 0), -1);
        Due.is("not kept", w.log(449, 2), -1);
    }

    private static void counts() {
        CoastWatch w = new CoastWatch();
        w.post(0, 0, 1);
        w.post(10, 0, 1);
        w.reach(1, 1);
        w.reach(1, 2);
        w.reach(1, 3);
        w.sight(0, 1, 0, 1, 1);
        w.sight(1, -1, 0, -1, -1);
        w.sight(1, -1, 0, -1, -1);
        w.sight(1, -1, 0, -1, -1);
        w.plotted(0, 1);
        w.step(1);
        w.sight(0, 1, 0, 1, 1);
        w.sight(1, -1, 0, -1, -1);
        w.plotted(4, 5);
        w.plotted(0, 2);
        for (int b = 0; b < 7; b++) {
            w.plan(b, 0, b, 0);
        }
        w.call(0, 0);
        w.call(1, 1);
        w.step(3);
        Due.counts(w, "all", 4, 2, 3, 6, 3, 2, 7, 6, 4, -1);
        Due.is("below", w.count(-1), -1);
        Due.is("far", w.count(Integer.MAX_VALUE), -1);
    }
}
