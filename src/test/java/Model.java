import java.math.BigInteger;
import java.util.ArrayList;
import java.util.List;

/**
 * The document once more, slowly and by other ways: spans are cut out of a huge square with exact
 * fractions, sets of posts are compared pair by pair, the log is written minute by minute.
 */
final class Model {
    static final long THROWS = Long.MIN_VALUE;
    private static final int NONE = -1;

    /** A point with exact fractions. */
    private record Point(Fraction x, Fraction y) {
    }

    private record Fraction(BigInteger top, BigInteger low) implements Comparable<Fraction> {
        static Fraction of(BigInteger top, BigInteger low) {
            BigInteger g = top.gcd(low);
            BigInteger sign = BigInteger.valueOf(low.signum());
            return new Fraction(top.divide(g).multiply(sign), low.divide(g).multiply(sign));
        }

        static Fraction of(long whole) {
            return new Fraction(BigInteger.valueOf(whole), BigInteger.ONE);
        }

        Fraction plus(Fraction o) {
            return of(top.multiply(o.low).add(o.top.multiply(low)), low.multiply(o.low));
        }

        Fraction times(Fraction o) {
            return of(top.multiply(o.top), low.multiply(o.low));
        }

        Fraction minus(Fraction o) {
            return plus(o.times(of(-1)));
        }

        Fraction over(Fraction o) {
            return of(top.multiply(o.low), low.multiply(o.top));
        }

        int sign() {
            return top.signum();
        }

        long floor() {
            BigInteger[] parts = top.divideAndRemainder(low);
            return parts[1].signum() < 0 ? parts[0].longValueExact() - 1 : parts[0].longValueExact();
        }

        long ceiling() {
            return -new Fraction(top.negate(), low).floor();
        }

        @Override
        public int compareTo(Fraction o) {
            return minus(o).sign();
        }
    }

    private record Post(int x, int y, int height) {
    }

    private record Sighting(Post post, int a, int b, int c, int d, int minute) {
    }

    private record Plot(int one, int other, int minute, int track, long[] box) {
    }

    private record Plan(int boat, int leaving, int due, int grace, int told) {
    }

    private static final long FAR = 1_000_000_000L;

    private final List<Post> posts = new ArrayList<>();
    private final List<int[]> reaches = new ArrayList<>();
    private final int[] visibility = new int[334];
    private final List<Sighting> sightings = new ArrayList<>();
    private final List<Plot> plots = new ArrayList<>();
    private final List<Plan> plans = new ArrayList<>();
    private final List<Integer> cameIn = new ArrayList<>();
    private final int[] rules = {NONE, NONE, NONE, NONE, NONE};
    private final List<int[]> lines = new ArrayList<>();
    private int speed = 10;
    private int now = 0;

    Model() {
        for (int h = 0; h < 334; h++) {
            visibility[h] = 300;
        }
    }

    private static boolean out(int value, int least, int greatest) {
        return value < least || value > greatest;
    }

    int post(int x, int y, int height) {
        if (posts.size() == 6 || out(x, 0, 2000) || out(y, 0, 2000) || out(height, 1, 500)) {
            return NONE;
        }
        posts.add(new Post(x, y, height));
        return posts.size() - 1;
    }

    int reach(int x, int y) {
        if (reaches.size() == 8 || out(x, 0, 2000) || out(y, 0, 2000)) {
            return NONE;
        }
        reaches.add(new int[] {x, y});
        return reaches.size() - 1;
    }

    boolean weather(int hour, int far) {
        if (out(hour, 0, 333) || out(far, 0, 2000)) {
            return false;
        }
        visibility[hour] = far;
        return true;
    }

    int sees(int post, int x, int y, int hour) {
        if (out(post, 0, posts.size() - 1) || out(x, 0, 2000) || out(y, 0, 2000) || out(hour, 0, 333)) {
            return NONE;
        }
        Post p = posts.get(post);
        long squared = (long) (p.x - x) * (p.x - x) + (long) (p.y - y) * (p.y - y);
        long bound = Math.min((long) visibility[hour] * visibility[hour], 1274L * p.height);
        return squared <= bound ? 1 : 0;
    }

    private boolean someSees(int set, int[] reach, int hour) {
        for (int p = 0; p < posts.size(); p++) {
            if ((set & 1 << p) != 0 && sees(p, reach[0], reach[1], hour) == 1) {
                return true;
            }
        }
        return false;
    }

    int manned(int hour) {
        if (out(hour, 0, 333)) {
            return NONE;
        }
        for (int many = 0; many <= posts.size(); many++) {
            for (int set = 0; set < 1 << posts.size(); set++) {
                boolean all = Integer.bitCount(set) == many;
                for (int[] reach : reaches) {
                    all = all && (someSees(set, reach, hour) || !someSees(63, reach, hour));
                }
                if (all) {
                    return set;
                }
            }
        }
        throw new IllegalStateException();
    }

    int open(int hour) {
        if (out(hour, 0, 333)) {
            return NONE;
        }
        int bits = 0;
        for (int r = 0; r < reaches.size(); r++) {
            bits += someSees(63, reaches.get(r), hour) ? 0 : 1 << r;
        }
        return bits;
    }

    int sight(int post, int a, int b, int c, int d) {
        if (out(post, 0, posts.size() - 1) || sightings.size() == 100) {
            return NONE;
        }
        if (out(a, -50, 50) || out(b, -50, 50) || out(c, -50, 50) || out(d, -50, 50)) {
            return NONE;
        }
        if (a == 0 && b == 0 || c == 0 && d == 0 || a * d <= b * c) {
            return NONE;
        }
        sightings.add(new Sighting(posts.get(post), a, b, c, d, now));
        return sightings.size() - 1;
    }

    /** The points of the polygon on the left of a line, on it too. */
    private static List<Point> cut(List<Point> polygon, int x, int y, int dx, int dy) {
        List<Point> kept = new ArrayList<>();
        for (int i = 0; i < polygon.size(); i++) {
            Point p = polygon.get(i);
            Point q = polygon.get((i + 1) % polygon.size());
            Fraction atP = side(p, x, y, dx, dy);
            Fraction atQ = side(q, x, y, dx, dy);
            if (atP.sign() >= 0) {
                kept.add(p);
            }
            if (atP.sign() * atQ.sign() < 0) {
                Fraction share = atP.over(atP.minus(atQ));
                kept.add(new Point(p.x.plus(q.x.minus(p.x).times(share)), p.y.plus(q.y.minus(p.y).times(share))));
            }
        }
        return kept;
    }

    private static Fraction side(Point p, int x, int y, int dx, int dy) {
        Fraction up = p.y.minus(Fraction.of(y)).times(Fraction.of(dx));
        return up.minus(p.x.minus(Fraction.of(x)).times(Fraction.of(dy)));
    }

    private static List<Point> cutSpan(List<Point> polygon, Sighting s) {
        List<Point> half = cut(polygon, s.post.x, s.post.y, s.a, s.b);
        return cut(half, s.post.x, s.post.y, -s.c, -s.d);
    }

    /** null: can't be asked for. A point on the huge square's sides tells that it is endless. */
    private List<Point> meet(int one, int other) {
        if (out(one, 0, sightings.size() - 1) || out(other, 0, sightings.size() - 1)) {
            return null;
        }
        Sighting s = sightings.get(one);
        Sighting t = sightings.get(other);
        if (s.minute != t.minute || s.post.x == t.post.x && s.post.y == t.post.y) {
            return null;
        }
        List<Point> polygon = new ArrayList<>();
        for (int[] c : new int[][] {{-1, -1}, {1, -1}, {1, 1}, {-1, 1}}) {
            polygon.add(new Point(Fraction.of(c[0] * FAR), Fraction.of(c[1] * FAR)));
        }
        return extremes(cutSpan(cutSpan(polygon, s), t));
    }

    private static List<Point> extremes(List<Point> polygon) {
        List<Point> different = new ArrayList<>();
        for (Point p : polygon) {
            if (!different.contains(p)) {
                different.add(p);
            }
        }
        List<Point> corners = new ArrayList<>();
        for (Point p : different) {
            boolean between = false;
            for (Point q : different) {
                for (Point r : different) {
                    between = between || p != q && p != r && q != r && isBetween(p, q, r);
                }
            }
            if (!between) {
                corners.add(p);
            }
        }
        corners.sort((p, q) -> p.x.compareTo(q.x) != 0 ? p.x.compareTo(q.x) : p.y.compareTo(q.y));
        return corners;
    }

    private static boolean isBetween(Point p, Point q, Point r) {
        Fraction ux = q.x.minus(p.x);
        Fraction uy = q.y.minus(p.y);
        Fraction vx = r.x.minus(p.x);
        Fraction vy = r.y.minus(p.y);
        boolean onLine = ux.times(vy).minus(uy.times(vx)).sign() == 0;
        return onLine && ux.times(vx).plus(uy.times(vy)).sign() < 0;
    }

    private static boolean isFar(Fraction f) {
        return f.low.equals(BigInteger.ONE) && f.top.abs().equals(BigInteger.valueOf(FAR));
    }

    int plot(int one, int other) {
        List<Point> points = meet(one, other);
        if (points == null) {
            return NONE;
        }
        if (points.isEmpty()) {
            return 0;
        }
        for (Point p : points) {
            if (isFar(p.x) || isFar(p.y)) {
                return 2;
            }
        }
        return 1;
    }

    int corners(int one, int other) {
        return plot(one, other) == 1 ? meet(one, other).size() : NONE;
    }

    long corner(int one, int other, int i, int what) {
        if (out(i, 0, corners(one, other) - 1) || out(what, 0, 3)) {
            return THROWS;
        }
        Point p = meet(one, other).get(i);
        BigInteger[] parts = {p.x.top, p.x.low, p.y.top, p.y.low};
        return parts[what].longValueExact();
    }

    private long[] boxOf(int one, int other) {
        long[] box = {Long.MAX_VALUE, Long.MAX_VALUE, Long.MIN_VALUE, Long.MIN_VALUE};
        for (Point p : meet(one, other)) {
            box[0] = Math.min(box[0], p.x.floor());
            box[1] = Math.min(box[1], p.y.floor());
            box[2] = Math.max(box[2], p.x.ceiling());
            box[3] = Math.max(box[3], p.y.ceiling());
        }
        return box;
    }

    long box(int one, int other, int what) {
        return plot(one, other) != 1 || out(what, 0, 3) ? THROWS : boxOf(one, other)[what];
    }

    private int tracks() {
        int tracks = 0;
        for (Plot p : plots) {
            tracks = Math.max(tracks, p.track + 1);
        }
        return tracks;
    }

    private static long squared(long[] one, long[] other) {
        long dx = Math.max(0, Math.max(one[0] - other[2], other[0] - one[2]));
        long dy = Math.max(0, Math.max(one[1] - other[3], other[1] - one[3]));
        return dx * dx + dy * dy;
    }

    int plotted(int one, int other) {
        if (plot(one, other) != 1 || plots.size() == 60) {
            return NONE;
        }
        for (Plot p : plots) {
            if (Math.min(p.one, p.other) == Math.min(one, other) && Math.max(p.one, p.other) == Math.max(one, other)) {
                return NONE;
            }
        }
        int minute = sightings.get(one).minute;
        long[] box = boxOf(one, other);
        int best = tracks();
        long least = Long.MAX_VALUE;
        for (int t = 0; t < tracks(); t++) {
            Plot latest = null;
            for (Plot p : plots) {
                latest = p.track == t && (latest == null || p.minute > latest.minute) ? p : latest;
            }
            long way = (long) speed * (minute - latest.minute);
            long far = squared(latest.box, box);
            if (latest.minute < minute && far <= way * way && far < least) {
                best = t;
                least = far;
            }
        }
        plots.add(new Plot(one, other, minute, best, box));
        return best;
    }

    boolean speed(int told) {
        if (out(told, 1, 100)) {
            return false;
        }
        speed = told;
        return true;
    }

    int track(int p, int what) {
        if (out(p, 0, plots.size() - 1) || out(what, 0, 3)) {
            return NONE;
        }
        Plot plot = plots.get(p);
        return new int[] {plot.track, plot.one, plot.other, plot.minute}[what];
    }

    int plan(int boat, int leaving, int due, int grace) {
        if (out(boat, 0, Math.min(29, cameIn.size())) || plans.size() == 100) {
            return NONE;
        }
        if (out(leaving, 0, 20000) || out(due, leaving, 20000) || out(grace, 0, 600)) {
            return NONE;
        }
        if (boat < cameIn.size() && cameIn.get(boat) != NONE) {
            return NONE;
        }
        if (boat == cameIn.size()) {
            cameIn.add(NONE);
        }
        plans.add(new Plan(boat, leaving, due, grace, now));
        return boat;
    }

    boolean in(int boat) {
        if (out(boat, 0, cameIn.size() - 1) || cameIn.get(boat) != NONE) {
            return false;
        }
        cameIn.set(boat, now);
        return true;
    }

    private Plan lastPlan(int boat, int known) {
        Plan last = null;
        for (Plan p : plans) {
            last = p.boat == boat && p.told <= known ? p : last;
        }
        return last;
    }

    private int state(int boat, int minute, int known) {
        Plan plan = lastPlan(boat, known);
        if (plan == null) {
            return 0;
        }
        int in = cameIn.get(boat);
        if (in != NONE && in <= known && in <= minute) {
            return 4;
        }
        return minute < plan.leaving ? 1 : minute <= plan.due + plan.grace ? 2 : 3;
    }

    int boat(int boat, int minute, int known) {
        boolean no = out(boat, 0, cameIn.size() - 1) || out(minute, 0, now) || out(known, 0, now);
        return no ? NONE : state(boat, minute, known);
    }

    boolean call(int k, int minutes) {
        if (out(k, 0, 4) || out(minutes, -1, 2000)) {
            return false;
        }
        rules[k] = minutes;
        return true;
    }

    int step(int n) {
        if (out(n, 0, 3000) || now + n > 20000) {
            return NONE;
        }
        for (int i = 0; i < n; i++) {
            now++;
            for (int b = 0; b < cameIn.size(); b++) {
                writeFor(b);
            }
        }
        return now;
    }

    private void writeFor(int b) {
        if (state(b, now, now) != 3) {
            return;
        }
        Plan plan = lastPlan(b, now);
        for (int k = 0; k < 5; k++) {
            if (rules[k] != NONE && now - (plan.due + plan.grace + 1) == rules[k]) {
                lines.add(new int[] {b, k, now});
            }
        }
    }

    int log(int i, int what) {
        return out(i, 0, Math.min(300, lines.size()) - 1) || out(what, 0, 2) ? NONE : lines.get(i)[what];
    }

    int count(int what) {
        int overdue = 0;
        for (int b = 0; b < cameIn.size(); b++) {
            overdue += state(b, now, now) == 3 ? 1 : 0;
        }
        int[] all = {now, posts.size(), reaches.size(), sightings.size(), plots.size(), tracks(),
            cameIn.size(), lines.size(), overdue};
        return out(what, 0, 8) ? NONE : all[what];
    }
}
