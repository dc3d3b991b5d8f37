import java.util.NoSuchElementException;
import java.util.Random;

/** Drawn sightings, many of them on shared lines or aimed at each other: every plot and track as by the model. */
public final class RandomShapesTest {
    private static final int OBJECTS = 160;
    private static final int CALLS = 512;

    private final Random random;
    private final CoastWatch watch = new CoastWatch();
    private final Model model = new Model();
    private final int[] x = new int[6];
    private final int[] y = new int[6];
    private final int edge;
    private final String name;
    private int asked = 0;

    private RandomShapesTest(int seed) {
        random = new Random(7000 + seed);
        name = "object " + seed + ": ";
        edge = new int[] {1, 2, 5, 50}[seed % 4];
        int grid = new int[] {2, 5, 40, 2000, 300}[seed % 5];
        for (int p = 0; p < 6; p++) {
            x[p] = random.nextInt(grid + 1);
            y[p] = random.nextInt(grid + 1);
            due("post", watch.post(x[p], y[p], 1), model.post(x[p], y[p], 1));
        }
    }

    public static void main(String[] args) {
        int[] kinds = new int[4];
        for (int seed = 0; seed < OBJECTS; seed++) {
            new RandomShapesTest(seed).run(kinds);
        }
        // A draw that seldom meets a kind would tell little about it.
        for (int kind = 0; kind < 3; kind++) {
            Due.is("plots of kind " + kind + " were drawn often: " + kinds[kind], kinds[kind] >= 400, true);
        }
        Due.is("tracks were joined often: " + kinds[3], kinds[3] >= 200, true);
        Due.end();
    }

    private void due(String call, long got, long want, int... given) {
        asked++;
        Due.is(name + call + java.util.Arrays.toString(given), got, want);
    }

    private void run(int[] kinds) {
        for (int i = 0; i < 100 && asked < CALLS - 40; i++) {
            if (random.nextInt(3) == 0) {
                int n = random.nextInt(4);
                due("step", watch.step(n), model.step(n), n);
            }
            if (random.nextInt(10) == 0) {
                int s = 1 + random.nextInt(random.nextBoolean() ? 3 : 100);
                due("speed", watch.speed(s) ? 1 : 0, model.speed(s) ? 1 : 0, s);
            }
            int p = random.nextInt(6);
            int q = (p + 1 + random.nextInt(5)) % 6;
            sightTowards(p, q);
            sightTowards(q, p);
            int last = model.count(3) - 1;
            int other = Math.max(0, last - 1 - (random.nextInt(4) == 0 ? random.nextInt(4) : 0));
            ask(last, other, kinds);
        }
    }

    /** Often with an edge just towards the other post, or with that one between the edges. */
    private void sightTowards(int p, int q) {
        int a = random.nextInt(2 * edge + 1) - edge;
        int b = random.nextInt(2 * edge + 1) - edge;
        int c = random.nextInt(2 * edge + 1) - edge;
        int d = random.nextInt(2 * edge + 1) - edge;
        int dx = x[q] - x[p];
        int dy = y[q] - y[p];
        boolean near = Math.abs(dx) <= 50 && Math.abs(dy) <= 50;
        if (near && random.nextInt(3) == 0) {
            a = dx;
            b = dy;
        } else if (near && random.nextInt(3) == 0) {
            a = Math.max(-50, Math.min(50, dx + random.nextInt(3) - 1));
            b = Math.max(-50, Math.min(50, dy + random.nextInt(3) - 1));
        }
        if (a * d < b * c) {
            due("sight", watch.sight(p, c, d, a, b), model.sight(p, c, d, a, b), p, c, d, a, b);
        } else {
            due("sight", watch.sight(p, a, b, c, d), model.sight(p, a, b, c, d), p, a, b, c, d);
        }
    }

    private void ask(int one, int other, int[] kinds) {
        int kind = model.plot(one, other);
        due("plot", watch.plot(one, other), kind, one, other);
        due("plot", watch.plot(other, one), kind, other, one);
        int corners = model.corners(one, other);
        due("corners", watch.corners(one, other), corners, one, other);
        if (kind < 0) {
            return;
        }
        kinds[kind]++;
        for (int i = 0; i <= corners && random.nextInt(3) != 0; i++) {
            for (int what = 0; what < 4; what++) {
                due("corner", corner(one, other, i, what), model.corner(one, other, i, what), one, other, i, what);
            }
        }
        for (int what = 0; what < 4 && kind == 1; what++) {
            due("box", watch.box(one, other, what), model.box(one, other, what), one, other, what);
        }
        int tracks = model.count(5);
        int track = model.plotted(one, other);
        due("plotted", watch.plotted(one, other), track, one, other);
        kinds[3] += track >= 0 && track < tracks ? 1 : 0;
    }

    private long corner(int one, int other, int i, int what) {
        try {
            return watch.corner(one, other, i, what);
        } catch (NoSuchElementException e) {
            return Model.THROWS;
        }
    }
}
