/** Each sentence that names a boundary on CALLS and the LOG in "Terms" 3 and in promises 19 to 22, and the 512 calls. */
public final class CallsBoundsTest {
    public static void main(String[] args) {
        rules();
        ruleMinutes();
        noneAtFirst();
        noneAgain();
        toldAgainAtOnce();
        toldAgainForAll();
        refusedRuleIsNotTold();
        justSoMany();
        sinceThatPlan();
        asKnownThen();
        oneThatIsIn();
        byBoatsThenRules();
        inMinuteZero();
        theNewNowToo();
        stepMinutes();
        nowAboveTheLast();
        refusedStep();
        callsBehindTheLastMinute();
        logOfOthers();
        firstThreeHundred();
        countOfOthers();
        fiveHundredTwelveCalls();
        Due.end();
    }

    private static void line(CoastWatch w, int i, int boat, int rule, int minute) {
        Due.is("line " + i + ": boat", w.log(i, 0), boat);
        Due.is("line " + i + ": rule", w.log(i, 1), rule);
        Due.is("line " + i + ": minute", w.log(i, 2), minute);
    }

    /** One boat that is overdue from minute 1 on. */
    private static CoastWatch overdue() {
        CoastWatch w = new CoastWatch();
        w.plan(0, 0, 0, 0);
        return w;
    }

    private static void rules() {
        Due.sentence("rule k (0 .. 4) / False: out of bounds.");
        Due.boundsOfYes("k", 0, 4, v -> Due.yes(new CoastWatch().call(v, 0)));
        CoastWatch w = overdue();
        for (int k = 0; k < 5; k++) {
            w.call(k, 3);
        }
        w.step(4);
        Due.is("all five", w.count(7), 5);
        line(w, 0, 0, 0, 4);
        line(w, 4, 0, 4, 4);
    }

    private static void ruleMinutes() {
        Due.sentence("so many MINUTES (0 .. 2,000; NONE: none) / False: out of bounds.");
        Due.boundsOfYes("minutes", -1, 2000, v -> Due.yes(new CoastWatch().call(2, v)));
        CoastWatch w = overdue();
        w.call(0, 0);
        w.call(1, 2000);
        w.step(2000);
        Due.is("the least in the first minute", w.count(7), 1);
        line(w, 0, 0, 0, 1);
        w.step(1);
        line(w, 1, 0, 1, 2001);
    }

    private static void noneAtFirst() {
        Due.sentence("NONE: none, as at first");
        CoastWatch w = overdue();
        w.step(3000);
        Due.is("no calls", w.count(7), 0);
        Due.is("no line", w.log(0, 0), -1);
    }

    private static void noneAgain() {
        Due.sentence("NONE: none (told behind a number)");
        CoastWatch w = overdue();
        w.plan(1, 0, 1, 0);
        w.call(3, 1);
        w.step(2);
        Due.is("the first boat's", w.count(7), 1);
        Due.is("none", w.call(3, CoastWatch.NONE), true);
        w.step(3000);
        Due.is("not the second's", w.count(7), 1);
        line(w, 0, 0, 3, 2);
    }

    private static void toldAgainAtOnce() {
        Due.sentence("told again another one, at once");
        CoastWatch w = overdue();
        w.call(0, 4);
        w.step(4);
        Due.is("not yet", w.count(7), 0);
        w.call(0, 5);
        w.step(1);
        Due.is("not in the old one's minute", w.count(7), 0);
        w.step(1);
        line(w, 0, 0, 0, 6);
        w.call(0, 6);
        w.step(1);
        line(w, 1, 0, 0, 7);
        w.call(0, 6);
        w.step(1);
        Due.is("its minute has gone by", w.count(7), 2);
        w.call(0, 0);
        w.step(10);
        Due.is("its minute has gone by", w.count(7), 2);
    }

    private static void toldAgainForAll() {
        Due.sentence("told again another one, for all");
        CoastWatch w = overdue();
        w.plan(1, 0, 1, 0);
        w.call(0, 9);
        w.step(1);
        w.plan(2, 0, 2, 0);
        w.call(0, 2);
        w.step(100);
        Due.is("one of each boat", w.count(7), 3);
        line(w, 0, 0, 0, 3);
        line(w, 1, 1, 0, 4);
        line(w, 2, 2, 0, 5);
    }

    private static void refusedRuleIsNotTold() {
        Due.sentence("What is refused changes nothing. (a rule)");
        CoastWatch w = overdue();
        w.call(0, 4);
        Due.is("below", w.call(0, -2), false);
        Due.is("above", w.call(0, 2001), false);
        Due.is("no rule", w.call(5, 1), false);
        Due.is("no rule", w.call(-1, 1), false);
        w.step(3000);
        Due.is("as told first", w.count(7), 1);
        line(w, 0, 0, 0, 5);
    }

    private static void justSoMany() {
        Due.sentence("for each BOAT that has been OVERDUE since just so many MINUTES");
        CoastWatch w = new CoastWatch();
        w.plan(0, 3, 10, 5);
        w.call(0, 0);
        w.call(1, 1);
        w.call(2, 7);
        w.step(15);
        Due.is("up to due and grace", w.count(7), 0);
        w.step(1);
        Due.is("the first minute", w.count(7), 1);
        line(w, 0, 0, 0, 16);
        w.step(1);
        Due.is("the next one", w.count(7), 2);
        line(w, 1, 0, 1, 17);
        w.step(5);
        Due.is("not yet", w.count(7), 2);
        w.step(1);
        line(w, 2, 0, 2, 23);
        w.step(3000);
        Due.is("once each", w.count(7), 3);
    }

    private static void sinceThatPlan() {
        Due.sentence("(those since the first MINUTE behind due and grace of its PLAN)");
        CoastWatch w = new CoastWatch();
        w.call(0, 0);
        w.call(1, 10);
        w.call(2, 11);
        w.step(20);
        // Behind due and grace since minute 11 by this plan: since 10 minutes when it is told in 21.
        w.plan(0, 0, 8, 2);
        w.step(1);
        Due.is("what has gone by is not called", w.count(7), 1);
        line(w, 0, 0, 1, 21);
        w.plan(0, 0, 8, 3);
        w.step(1);
        Due.is("10 again by the plan told anew", w.count(7), 2);
        line(w, 1, 0, 1, 22);
        w.step(1);
        line(w, 2, 0, 2, 23);
        w.step(100);
        Due.is("no more", w.count(7), 3);
    }

    private static void asKnownThen() {
        Due.sentence("OVERDUE in it, as known then");
        CoastWatch w = overdue();
        w.call(0, 5);
        w.step(5);
        w.plan(0, 0, 100, 0);
        w.step(90);
        Due.is("under way by the plan told anew", w.count(7), 0);
        // NOW is 95; overdue since 91 by this one.
        w.plan(0, 0, 90, 0);
        w.step(1);
        Due.is("since 5 minutes", w.count(7), 1);
        line(w, 0, 0, 0, 96);
    }

    private static void oneThatIsIn() {
        Due.sentence("a call is written for each BOAT that is OVERDUE (not one that is IN)");
        CoastWatch w = overdue();
        w.plan(1, 0, 0, 0);
        w.plan(2, 0, 50, 0);
        w.call(0, 0);
        w.call(4, 2);
        w.step(2);
        Due.is("two", w.count(7), 2);
        w.in(0);
        w.step(1);
        Due.is("one of them is in", w.count(7), 3);
        line(w, 2, 1, 4, 3);
        w.in(2);
        w.step(100);
        Due.is("in ahead of its minute", w.count(7), 3);
    }

    private static void byBoatsThenRules() {
        Due.sentence("in each one, by BOATS, then rules");
        CoastWatch w = new CoastWatch();
        w.plan(0, 0, 2, 0);
        w.plan(1, 0, 1, 0);
        w.plan(2, 0, 0, 2);
        w.call(4, 0);
        w.call(0, 1);
        w.call(2, 0);
        w.step(50);
        Due.is("in all", w.count(7), 9);
        line(w, 0, 1, 2, 2);
        line(w, 1, 1, 4, 2);
        line(w, 2, 0, 2, 3);
        line(w, 3, 0, 4, 3);
        line(w, 4, 1, 0, 3);
        line(w, 5, 2, 2, 3);
        line(w, 6, 2, 4, 3);
        line(w, 7, 0, 0, 4);
        line(w, 8, 2, 0, 4);
    }

    private static void inMinuteZero() {
        Due.sentence("in MINUTE 0 none is");
        CoastWatch w = overdue();
        w.call(0, 0);
        Due.is("0", w.step(0), 0);
        Due.is("none", w.count(7), 0);
        w.step(1);
        Due.is("in minute 1", w.count(7), 1);
    }

    private static void theNewNowToo() {
        Due.sentence("In each of them, the new NOW too, the LOG is written");
        CoastWatch w = new CoastWatch();
        w.plan(0, 0, 3, 0);
        w.plan(1, 0, 4, 0);
        w.plan(2, 0, 5, 0);
        w.call(0, 0);
        w.step(5);
        Due.is("up to NOW", w.count(7), 2);
        line(w, 1, 1, 0, 5);
        Due.is("no minute goes by", w.step(0), 5);
        Due.is("it is not written twice", w.count(7), 2);
        w.plan(3, 0, 4, 0);
        w.step(1);
        Due.is("nor is the old NOW again", w.count(7), 3);
        line(w, 2, 2, 0, 6);
    }

    private static void stepMinutes() {
        Due.sentence("n MINUTES (0 .. 3,000) go by: NOW. NONE: n");
        Due.is("least", new CoastWatch().step(0), 0);
        Due.is("greatest", new CoastWatch().step(3000), 3000);
        Due.refusedOutside("n", 0, 3000, -1, v -> new CoastWatch().step(v));
        CoastWatch w = overdue();
        w.call(0, 2000);
        w.plan(1, 0, 2399, 600);
        w.call(1, 0);
        Due.is("all at once", w.step(3000), 3000);
        Due.is("the last minute of them, too", w.count(7), 3);
        line(w, 0, 0, 1, 1);
        line(w, 1, 0, 0, 2001);
        line(w, 2, 1, 1, 3000);
    }

    private static CoastWatch late(int now) {
        CoastWatch w = new CoastWatch();
        for (int m = now; m > 0; m -= 3000) {
            w.step(Math.min(m, 3000));
        }
        return w;
    }

    private static void nowAboveTheLast() {
        Due.sentence("NONE: NOW would be above 20,000");
        Due.is("just", late(17000).step(3000), 20000);
        Due.is("by one", late(17001).step(3000), -1);
        Due.is("just", late(17001).step(2999), 20000);
        Due.is("by one", late(19999).step(2), -1);
        Due.is("just", late(19999).step(1), 20000);
        Due.is("by one", late(20000).step(1), -1);
        Due.is("none goes by", late(20000).step(0), 20000);
        Due.refusedOutside("n", 0, 0, -1, v -> late(20000).step(v));
    }

    private static void refusedStep() {
        Due.sentence("What is refused changes nothing. (a step)");
        CoastWatch w = overdue();
        w.call(0, 0);
        w.step(3001);
        w.step(-1);
        w.step(Integer.MIN_VALUE);
        Due.is("NOW", w.count(0), 0);
        Due.is("no calls", w.count(7), 0);
        CoastWatch last = late(19990);
        last.plan(0, 0, 19991, 0);
        last.call(0, 0);
        last.step(11);
        Due.is("NOW", last.count(0), 19990);
        Due.is("no calls on the way", last.count(7), 0);
        last.step(10);
        line(last, 0, 0, 0, 19992);
    }

    private static void callsBehindTheLastMinute() {
        Due.sentence("MINUTES are 0 .. 20,000 (calls that would be behind them)");
        CoastWatch w = late(17990);
        w.plan(0, 0, 17999, 0);
        w.plan(1, 0, 18000, 0);
        w.plan(2, 0, 20000, 600);
        w.plan(3, 0, 19399, 600);
        w.call(0, 2000);
        w.call(1, 0);
        w.step(2010);
        Due.is("NOW", w.count(0), 20000);
        Due.is("calls", w.count(7), 4);
        line(w, 0, 0, 1, 18000);
        line(w, 1, 1, 1, 18001);
        line(w, 2, 0, 0, 20000);
        line(w, 3, 3, 1, 20000);
    }

    private static CoastWatch oneLine() {
        CoastWatch w = overdue();
        w.call(4, 6);
        w.step(9);
        return w;
    }

    private static void logOfOthers() {
        Due.sentence("Of LOG line i: 0 .. 2. NONE without, or for others.");
        Due.refusedOutside("i of none", 0, -1, -1, v -> overdue().log(v, 0));
        Due.refusedOutside("i of one", 0, 0, -1, v -> oneLine().log(v, 0));
        Due.refusedOutside("what", 0, 2, -1, v -> oneLine().log(0, v));
        line(oneLine(), 0, 0, 4, 7);
    }

    private static void firstThreeHundred() {
        Due.sentence("(the first 300 are kept) / 7 calls in all");
        CoastWatch w = new CoastWatch();
        for (int b = 0; b < 30; b++) {
            w.plan(b, 0, 0, 0);
        }
        for (int k = 0; k < 5; k++) {
            w.call(k, k);
        }
        w.step(5);
        for (int k = 0; k < 5; k++) {
            w.call(k, 10 + k);
        }
        w.step(9);
        Due.is("270", w.count(7), 270);
        Due.is("none yet", w.log(270, 0), -1);
        w.in(29);
        w.in(28);
        w.step(1);
        Due.is("298", w.count(7), 298);
        Due.is("none yet", w.log(298, 0), -1);
        w.step(7);
        for (int k = 0; k < 5; k++) {
            w.call(k, 22);
        }
        w.step(1);
        Due.is("438", w.count(7), 438);
        line(w, 269, 29, 3, 14);
        line(w, 270, 0, 4, 15);
        line(w, 297, 27, 4, 15);
        line(w, 298, 0, 0, 23);
        line(w, 299, 0, 1, 23);
        Due.is("not kept", w.log(300, 0), -1);
        Due.is("not kept", w.log(300, 2), -1);
        Due.is("not kept", w.log(437, 1), -1);
    }

    private static void countOfOthers() {
        Due.sentence("0 NOW .. 8 BOATS that are OVERDUE now. NONE for others.");
        Due.refusedOutside("what", 0, 8, -1, v -> oneLine().count(v));
        Due.counts(oneLine(), "one line", 9, 0, 0, 0, 0, 0, 1, 1, 1);
        CoastWatch w = oneLine();
        w.plan(0, 0, 9, 0);
        Due.is("overdue no more by the plan told anew", w.count(8), 0);
        w.step(1);
        Due.is("overdue now", w.count(8), 1);
        w.in(0);
        Due.is("in now", w.count(8), 0);
    }

    private static void fiveHundredTwelveCalls() {
        Due.sentence("An object is used for at most 512 calls after it has been made");
        CoastWatch w = new CoastWatch();
        int calls = 0;
        for (int p = 0; p < 6; p++) {
            w.post(100 * p, 0, 1);
            calls++;
        }
        for (int i = 0; i < 100; i++) {
            w.sight(i % 2 == 0 ? 0 : 1, i % 2 == 0 ? 1 : -1, 0, i % 2 == 0 ? 1 : -1, i % 2 == 0 ? 1 : -1);
            calls++;
        }
        for (int i = 0; i < 60; i++) {
            Due.is("plotted", w.plotted(i, i + 1 + 2 * (i / 50)), i);
            calls++;
        }
        for (int i = 0; i < 100; i++) {
            w.plan(i % 30, 0, i, 0);
            calls++;
        }
        w.call(0, 0);
        calls++;
        for (int i = calls; i < 511; i++) {
            Due.is("step", w.step(1), i - calls + 1);
        }
        Due.is("the 512th", w.count(7), 30);
    }
}
