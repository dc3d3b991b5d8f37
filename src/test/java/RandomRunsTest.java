import java.util.NoSuchElementException;
import java.util.Random;

/** Runs of drawn calls, at most 512 on an object, answered by the class as by the model. */
public final class RandomRunsTest {
    private static final int RUNS = 240;
    private static final int CALLS = 512;
    private static final int[] ODD = {Integer.MIN_VALUE, -2, -1, 0, 1, 2, 65536, Integer.MAX_VALUE};

    private final Random random;
    private final CoastWatch watch = new CoastWatch();
    private final Model model = new Model();
    private final int grid;
    private final int edge;
    private final int[] weights;
    private final String name;

    private RandomRunsTest(int seed) {
        random = new Random(seed);
        name = "run " + seed + ": ";
        grid = new int[] {3, 12, 100, 2000}[seed % 4];
        edge = new int[] {1, 3, 50}[seed % 3];
        weights = new int[21];
        for (int i = 0; i < weights.length; i++) {
            weights[i] = 1 + random.nextInt(4);
        }
        int[][] kinds = {{}, {0, 6, 7, 8, 9, 10, 11, 13}, {14, 16, 17, 18, 19, 20}, {0, 1, 2, 3, 4, 5}};
        for (int heavy : kinds[seed / 4 % 4]) {
            weights[heavy] *= 6;
        }
    }

    public static void main(String[] args) {
        for (int seed = 0; seed < RUNS; seed++) {
            new RandomRunsTest(seed).run();
        }
        Due.end();
    }

    private void run() {
        int sum = 0;
        for (int weight : weights) {
            sum += weight;
        }
        for (int i = 0; i < CALLS; i++) {
            int drawn = random.nextInt(sum);
            int call = 0;
            while (drawn >= weights[call]) {
                drawn -= weights[call];
                call++;
            }
            if (call < 6) {
                askLookouts(call);
            } else if (call < 14) {
                askPlots(call);
            } else {
                askBoats(call);
            }
        }
    }

    /** Mostly within the bounds, at times at or beyond them, seldom far out. */
    private int draw(int least, int greatest) {
        int kind = random.nextInt(60);
        if (kind == 0) {
            return ODD[random.nextInt(ODD.length)];
        }
        if (kind < 3) {
            return random.nextBoolean() ? least - 1 + random.nextInt(2) : greatest + random.nextInt(2);
        }
        return greatest < least ? least : random.nextInt(least, greatest + 1);
    }

    private int hour() {
        return random.nextInt(3) == 0 ? draw(0, 333) : draw(0, 2);
    }

    private void due(String call, long got, long want, int... given) {
        Due.is(name + call + java.util.Arrays.toString(given), got, want);
    }

    private void askLookouts(int call) {
        int x = draw(0, grid);
        int y = draw(0, grid);
        int h = hour();
        int v = random.nextBoolean() ? draw(0, 2000) : draw(0, grid);
        int height = random.nextBoolean() ? draw(1, 500) : draw(1, 5);
        int p = draw(0, model.count(1) - 1);
        switch (call) {
            case 0 -> due("post", watch.post(x, y, height), model.post(x, y, height), x, y, height);
            case 1 -> due("reach", watch.reach(x, y), model.reach(x, y), x, y);
            case 2 -> due("weather", watch.weather(h, v) ? 1 : 0, model.weather(h, v) ? 1 : 0, h, v);
            case 3 -> due("sees", watch.sees(p, x, y, h), model.sees(p, x, y, h), p, x, y, h);
            case 4 -> due("manned", watch.manned(h), model.manned(h), h);
            default -> due("open", watch.open(h), model.open(h), h);
        }
    }

    private void askPlots(int call) {
        int one = draw(0, model.count(3) - 1);
        int other = random.nextBoolean() ? draw(0, model.count(3) - 1) : one - 1 - random.nextInt(3);
        int i = draw(0, 3);
        int what = draw(0, 3);
        switch (call) {
            case 6 -> sight();
            case 7 -> due("plot", watch.plot(one, other), model.plot(one, other), one, other);
            case 8 -> due("corners", watch.corners(one, other), model.corners(one, other), one, other);
            case 9 -> due("corner", corner(one, other, i, what), model.corner(one, other, i, what), one, other, i, what);
            case 10 -> due("box", box(one, other, what), model.box(one, other, what), one, other, what);
            case 11 -> due("plotted", watch.plotted(one, other), model.plotted(one, other), one, other);
            case 12 -> {
                int speed = random.nextBoolean() ? draw(1, 100) : draw(1, 3);
                due("speed", watch.speed(speed) ? 1 : 0, model.speed(speed) ? 1 : 0, speed);
            }
            default -> {
                int p = draw(0, model.count(4) - 1);
                due("track", watch.track(p, what), model.track(p, what), p, what);
            }
        }
    }

    private void sight() {
        int p = draw(0, model.count(1) - 1);
        int a = draw(-edge, edge);
        int b = draw(-edge, edge);
        int c = draw(-edge, edge);
        int d = draw(-edge, edge);
        boolean turn = random.nextInt(8) != 0 && (long) a * d < (long) b * c;
        if (turn) {
            due("sight", watch.sight(p, c, d, a, b), model.sight(p, c, d, a, b), p, c, d, a, b);
        } else {
            due("sight", watch.sight(p, a, b, c, d), model.sight(p, a, b, c, d), p, a, b, c, d);
        }
    }

    private long corner(int one, int other, int i, int what) {
        try {
            return watch.corner(one, other, i, what);
        } catch (NoSuchElementException e) {
            return Model.THROWS;
        }
    }

    private long box(int one, int other, int what) {
        try {
            return watch.box(one, other, what);
        } catch (NoSuchElementException e) {
            return Model.THROWS;
        }
    }

    private void askBoats(int call) {
        int now = model.count(0);
        int boats = model.count(6);
        int b = draw(0, boats - 1);
        int what = draw(0, 8);
        switch (call) {
            case 14 -> plan(random.nextBoolean() ? draw(0, boats) : boats, now);
            case 15 -> due("in", watch.in(b) ? 1 : 0, model.in(b) ? 1 : 0, b);
            case 16 -> {
                int m = random.nextBoolean() ? draw(0, now) : draw(Math.max(0, now - 20), now);
                int q = random.nextBoolean() ? draw(0, now) : draw(Math.max(0, now - 20), now);
                due("boat", watch.boat(b, m, q), model.boat(b, m, q), b, m, q);
            }
            case 17 -> {
                int k = draw(0, 4);
                int m = random.nextBoolean() ? draw(-1, 2000) : draw(-1, 30);
                due("call", watch.call(k, m) ? 1 : 0, model.call(k, m) ? 1 : 0, k, m);
            }
            case 18 -> {
                int n = random.nextInt(12) == 0 ? draw(0, 3000) : draw(0, random.nextBoolean() ? 1 : 20);
                due("step", watch.step(n), model.step(n), n);
            }
            case 19 -> {
                int i = draw(0, Math.min(299, model.count(7) - 1));
                due("log", watch.log(i, what % 4), model.log(i, what % 4), i, what % 4);
            }
            default -> due("count", watch.count(what), model.count(what), what);
        }
    }

    private void plan(int b, int now) {
        int leaving = random.nextBoolean() ? draw(0, 20000) : draw(Math.max(0, now - 30), now + 10);
        int due = random.nextBoolean() ? draw(leaving, 20000) : draw(leaving, Math.min(20000, leaving + 20));
        int grace = random.nextBoolean() ? draw(0, 600) : draw(0, 10);
        due("plan", watch.plan(b, leaving, due, grace), model.plan(b, leaving, due, grace), b, leaving, due, grace);
    }
}
