import java.util.Arrays;
import java.util.NoSuchElementException;

/**
 * A coast's lookouts: posts and what they see, sightings and the plots and tracks that they make,
 * boats with their plans, and the log of who was called. README.md says how to use it.
 */
public final class CoastWatch {
    public static final int NONE = -1;

    private static final int LAST_PLACE = 2000;
    private static final int LAST_MINUTE = 20000;
    private static final int LAST_HOUR = 333;
    private static final int MOST_HEIGHT = 500;
    private static final int MOST_VISIBILITY = 2000;
    private static final int FIRST_VISIBILITY = 300;
    private static final int SEEN_PER_METRE = 1274;
    private static final int MOST_POSTS = 6;
    private static final int MOST_REACHES = 8;

    private static final int MOST_SIGHTINGS = 100;
    private static final int MOST_EDGE = 50;
    private static final int MOST_PLOTS = 60;
    private static final int FIRST_SPEED = 10;
    private static final int MOST_SPEED = 100;
    private static final int NO_POINTS = 0;
    private static final int A_SHAPE = 1;
    private static final int ENDLESS = 2;

    private static final int MOST_BOATS = 30;
    private static final int MOST_PLANS = 100;
    private static final int MOST_GRACE = 600;
    private static final int NOTHING_TOLD = 0;
    private static final int NOT_OFF = 1;
    private static final int UNDER_WAY = 2;
    private static final int OVERDUE = 3;
    private static final int CAME_IN = 4;

    private static final int RULES = 5;
    private static final int MOST_DELAY = 2000;
    private static final int MOST_STEP = 3000;
    private static final int LINES_KEPT = 300;

    private final Lookouts lookouts;
    private final Sightings sightings;
    private final Shape shape;
    private final Plots plots;
    private final Boats boats;
    private final CallLog calls;
    private int now;

    public CoastWatch() {
        lookouts = new Lookouts();
        sightings = new Sightings();
        shape = new Shape();
        plots = new Plots();
        boats = new Boats();
        calls = new CallLog();
        now = 0;
    }

    public int post(int x, int y, int height) {
        if (!isPlace(x, y) || !isWithin(height, 1, MOST_HEIGHT)) {
            return NONE;
        }
        return lookouts.addPost(x, y, height);
    }

    public int reach(int x, int y) {
        return isPlace(x, y) ? lookouts.addReach(x, y) : NONE;
    }

    public boolean weather(int hour, int visibility) {
        if (!isHour(hour) || !isWithin(visibility, 0, MOST_VISIBILITY)) {
            return false;
        }
        lookouts.visibility[hour] = visibility;
        return true;
    }

    public int sees(int post, int x, int y, int hour) {
        if (!lookouts.hasPost(post) || !isPlace(x, y) || !isHour(hour)) {
            return NONE;
        }
        return lookouts.isSeen(post, x, y, hour) ? 1 : 0;
    }

    public int manned(int hour) {
        return isHour(hour) ? lookouts.fewestPosts(hour) : NONE;
    }

    public int open(int hour) {
        return isHour(hour) ? lookouts.reachesUnseen(hour) : NONE;
    }

    public int sight(int post, int a, int b, int c, int d) {
        if (!lookouts.hasPost(post) || !isEdge(a, b) || !isEdge(c, d)) {
            return NONE;
        }
        // The cross product is above 0 just when the second edge is turned to the left by less
        // than half a round, so edges of no length are refused here, too.
        if (a * d - b * c <= 0) {
            return NONE;
        }
        int sighting = sightings.add(lookouts.postX[post], lookouts.postY[post], now);
        if (sighting != NONE) {
            sightings.setEdges(sighting, a, b, c, d);
        }
        return sighting;
    }

    public int plot(int one, int other) {
        return meet(one, other);
    }

    public int corners(int one, int other) {
        return meet(one, other) == A_SHAPE ? shape.corners : NONE;
    }

    public long corner(int one, int other, int i, int what) throws NoSuchElementException {
        if (meet(one, other) != A_SHAPE || !isWithin(i, 0, shape.corners - 1) || !isWithin(what, 0, 3)) {
            throw new NoSuchElementException();
        }
        return shape.cornerPart(i, what);
    }

    public int box(int one, int other, int what) throws NoSuchElementException {
        if (meet(one, other) != A_SHAPE || !isWithin(what, 0, 3)) {
            throw new NoSuchElementException();
        }
        return shape.boxSide(what);
    }

    public int plotted(int one, int other) {
        if (meet(one, other) != A_SHAPE || !plots.takes(one, other)) {
            return NONE;
        }
        return plots.add(one, other, sightings.minute[one], shape);
    }

    public boolean speed(int speed) {
        if (!isWithin(speed, 1, MOST_SPEED)) {
            return false;
        }
        plots.trackSpeed = speed;
        return true;
    }

    public int track(int p, int what) {
        return plots.partOf(p, what);
    }

    public int plan(int boat, int leaving, int due, int grace) {
        if (!isMinute(leaving) || !isWithin(due, leaving, LAST_MINUTE) || !isWithin(grace, 0, MOST_GRACE)) {
            return NONE;
        }
        if (!boats.takesPlan(boat)) {
            return NONE;
        }
        boats.addPlan(boat, leaving, due + grace, now);
        return boat;
    }

    public boolean in(int boat) {
        if (!boats.hasBoat(boat) || boats.isIn(boat)) {
            return false;
        }
        boats.inMinute[boat] = now;
        return true;
    }

    public int boat(int boat, int minute, int known) {
        if (!boats.hasBoat(boat) || !isWithin(minute, 0, now) || !isWithin(known, 0, now)) {
            return NONE;
        }
        return boats.stateOf(boat, minute, known);
    }

    public boolean call(int k, int minutes) {
        if (!isWithin(k, 0, RULES - 1) || !isWithin(minutes, NONE, MOST_DELAY)) {
            return false;
        }
        calls.delay[k] = minutes;
        return true;
    }

    public int step(int n) {
        if (!isWithin(n, 0, MOST_STEP) || now + n > LAST_MINUTE) {
            return NONE;
        }
        calls.writeMinutes(now, now + n, boats);
        now += n;
        return now;
    }

    public int log(int i, int what) {
        return calls.partOf(i, what);
    }

    public int count(int what) {
        switch (what) {
            case 0:
                return now;
            case 1:
                return lookouts.posts;
            case 2:
                return lookouts.reaches;
            case 3:
                return sightings.size;
            case 4:
                return plots.size;
            case 5:
                return plots.tracks;
            case 6:
                return boats.size;
            case 7:
                return calls.written;
            case 8:
                return boats.overdueAt(now);
            default:
                return NONE;
        }
    }

    /** Leaves the plot of two sightings in shape and answers its kind, or NONE if it can't be asked for. */
    private int meet(int one, int other) {
        if (!sightings.has(one) || !sightings.has(other) || !sightings.canMeet(one, other)) {
            return NONE;
        }
        sightings.putHalfPlanes(one, 0, shape);
        sightings.putHalfPlanes(other, 2, shape);
        shape.findCorners();
        return shape.kind();
    }

    private static boolean isWithin(int value, int least, int greatest) {
        return value >= least && value <= greatest;
    }

    private static boolean isPlace(int x, int y) {
        return isWithin(x, 0, LAST_PLACE) && isWithin(y, 0, LAST_PLACE);
    }

    private static boolean isHour(int hour) {
        return isWithin(hour, 0, LAST_HOUR);
    }

    private static boolean isMinute(int minute) {
        return isWithin(minute, 0, LAST_MINUTE);
    }

    private static boolean isEdge(int x, int y) {
        return isWithin(x, -MOST_EDGE, MOST_EDGE) && isWithin(y, -MOST_EDGE, MOST_EDGE);
    }

    /** The posts, the reaches, and how far the weather lets one see in each hour. */
    private static final class Lookouts {
        private final int[] postX = new int[MOST_POSTS];
        private final int[] postY = new int[MOST_POSTS];
        private final int[] height = new int[MOST_POSTS];
        private final int[] reachX = new int[MOST_REACHES];
        private final int[] reachY = new int[MOST_REACHES];
        private final int[] visibility = new int[LAST_HOUR + 1];
        private final int[] seenByPost = new int[MOST_POSTS];
        private int posts = 0;
        private int reaches = 0;

        private Lookouts() {
            Arrays.fill(visibility, FIRST_VISIBILITY);
        }

        private int addPost(int x, int y, int metres) {
            if (posts >= MOST_POSTS) {
                return NONE;
            }
            postX[posts] = x;
            postY[posts] = y;
            height[posts] = metres;
            posts++;
            return posts - 1;
        }

        private int addReach(int x, int y) {
            if (reaches >= MOST_REACHES) {
                return NONE;
            }
            reachX[reaches] = x;
            reachY[reaches] = y;
            reaches++;
            return reaches - 1;
        }

        private boolean hasPost(int p) {
            return isWithin(p, 0, posts - 1);
        }

        private boolean isSeen(int p, int x, int y, int hour) {
            int dx = postX[p] - x;
            int dy = postY[p] - y;
            int squared = dx * dx + dy * dy;
            int far = visibility[hour];
            return squared <= far * far && squared <= SEEN_PER_METRE * height[p];
        }

        private int reachesSeenBy(int p, int hour) {
            int seen = 0;
            for (int r = 0; r < reaches; r++) {
                if (isSeen(p, reachX[r], reachY[r], hour)) {
                    seen |= 1 << r;
                }
            }
            return seen;
        }

        private int reachesSeen(int hour) {
            int seen = 0;
            for (int p = 0; p < posts; p++) {
                seenByPost[p] = reachesSeenBy(p, hour);
                seen |= seenByPost[p];
            }
            return seen;
        }

        private int reachesUnseen(int hour) {
            return ((1 << reaches) - 1) & ~reachesSeen(hour);
        }

        private int fewestPosts(int hour) {
            int wanted = reachesSeen(hour);
            int best = (1 << posts) - 1;
            // Upwards and only for fewer posts, so that of several sets the least one stays.
            for (int set = 0; set < 1 << posts; set++) {
                if (Integer.bitCount(set) < Integer.bitCount(best) && seenBySet(set) == wanted) {
                    best = set;
                }
            }
            return best;
        }

        /** Uses the row that reachesSeen has filled for the hour. */
        private int seenBySet(int set) {
            int seen = 0;
            for (int p = 0; p < posts; p++) {
                if (((set >> p) & 1) == 1) {
                    seen |= seenByPost[p];
                }
            }
            return seen;
        }
    }

    /** The sightings: where from, when, and both edges. */
    private static final class Sightings {
        private final int[] fromX = new int[MOST_SIGHTINGS];
        private final int[] fromY = new int[MOST_SIGHTINGS];
        private final int[] minute = new int[MOST_SIGHTINGS];
        private final int[] firstX = new int[MOST_SIGHTINGS];
        private final int[] firstY = new int[MOST_SIGHTINGS];
        private final int[] secondX = new int[MOST_SIGHTINGS];
        private final int[] secondY = new int[MOST_SIGHTINGS];
        private int size = 0;

        private int add(int x, int y, int when) {
            if (size >= MOST_SIGHTINGS) {
                return NONE;
            }
            fromX[size] = x;
            fromY[size] = y;
            minute[size] = when;
            size++;
            return size - 1;
        }

        private void setEdges(int s, int a, int b, int c, int d) {
            firstX[s] = a;
            firstY[s] = b;
            secondX[s] = c;
            secondY[s] = d;
        }

        private boolean has(int s) {
            return isWithin(s, 0, size - 1);
        }

        private boolean canMeet(int one, int other) {
            boolean samePlace = fromX[one] == fromX[other] && fromY[one] == fromY[other];
            return minute[one] == minute[other] && !samePlace;
        }

        /** A span is what lies left of its first edge's line and right of its second edge's line. */
        private void putHalfPlanes(int s, int slot, Shape into) {
            into.putLeftSide(slot, fromX[s], fromY[s], firstX[s], firstY[s]);
            // Right of an edge is left of the edge turned about; its own way is told for endlessness.
            into.putLeftSide(slot + 1, fromX[s], fromY[s], -secondX[s], -secondY[s]);
            into.putEdge(slot, firstX[s], firstY[s]);
            into.putEdge(slot + 1, secondX[s], secondY[s]);
        }
    }

    /**
     * The points of two spans: four half planes a x + b y >= c. Numbers stay small: a, b up to 50,
     * c up to 200,000, so numerators up to 20,000,000 and denominators up to 5,000.
     */
    private static final class Shape {
        private static final int SIDES = 4;
        private static final int MOST_CORNERS = 6;

        private final long[] a = new long[SIDES];
        private final long[] b = new long[SIDES];
        private final long[] c = new long[SIDES];
        private final long[] edgeX = new long[SIDES];
        private final long[] edgeY = new long[SIDES];
        private final long[] topX = new long[MOST_CORNERS];
        private final long[] lowX = new long[MOST_CORNERS];
        private final long[] topY = new long[MOST_CORNERS];
        private final long[] lowY = new long[MOST_CORNERS];
        private int corners = 0;

        private void putLeftSide(int side, int x, int y, int dx, int dy) {
            a[side] = -dy;
            b[side] = dx;
            c[side] = -dy * x + dx * y;
        }

        private void putEdge(int side, int dx, int dy) {
            edgeX[side] = dx;
            edgeY[side] = dy;
        }

        /** A corner is a point of both spans where two of the four lines cross. */
        private void findCorners() {
            corners = 0;
            for (int i = 0; i < SIDES; i++) {
                for (int j = i + 1; j < SIDES; j++) {
                    tryCrossing(i, j);
                }
            }
        }

        private void tryCrossing(int i, int j) {
            long low = a[i] * b[j] - a[j] * b[i];
            if (low == 0) {
                return;
            }
            long x = c[i] * b[j] - c[j] * b[i];
            long y = a[i] * c[j] - a[j] * c[i];
            if (low < 0) {
                low = -low;
                x = -x;
                y = -y;
            }
            if (isInside(x, y, low)) {
                insert(x, y, low);
            }
        }

        private boolean isInside(long x, long y, long low) {
            for (int i = 0; i < SIDES; i++) {
                if (a[i] * x + b[i] * y < c[i] * low) {
                    return false;
                }
            }
            return true;
        }

        private void insert(long x, long y, long low) {
            int at = 0;
            while (at < corners && order(at, x, y, low) < 0) {
                at++;
            }
            boolean known = at < corners && order(at, x, y, low) == 0;
            if (known || corners >= MOST_CORNERS) {
                return;
            }
            for (int i = corners; i > at; i--) {
                topX[i] = topX[i - 1];
                lowX[i] = lowX[i - 1];
                topY[i] = topY[i - 1];
                lowY[i] = lowY[i - 1];
            }
            long shareX = commonDivisor(x, low);
            long shareY = commonDivisor(y, low);
            topX[at] = over(x, shareX);
            lowX[at] = over(low, shareX);
            topY[at] = over(y, shareY);
            lowY[at] = over(low, shareY);
            corners++;
        }

        private int order(int corner, long x, long y, long low) {
            int byX = Long.compare(topX[corner] * low, x * lowX[corner]);
            return byX != 0 ? byX : Long.compare(topY[corner] * low, y * lowY[corner]);
        }

        private static long commonDivisor(long some, long other) {
            long large = Math.abs(some);
            long small = Math.abs(other);
            // Each two turns halve the greater number, so 128 turns are enough for any two longs.
            for (int turn = 0; turn < 128 && small != 0; turn++) {
                long rest = large % small;
                large = small;
                small = rest;
            }
            return large;
        }

        private static long over(long value, long divisor) {
            return divisor > 1 ? value / divisor : value;
        }

        private int kind() {
            // A span holds no whole line, so points without a corner can't be.
            if (corners == 0) {
                return NO_POINTS;
            }
            return isEndless() ? ENDLESS : A_SHAPE;
        }

        /** Spans that share points go on together just when an edge of one runs along inside the other. */
        private boolean isEndless() {
            for (int e = 0; e < SIDES; e++) {
                if (runsInside(edgeX[e], edgeY[e])) {
                    return true;
                }
            }
            return false;
        }

        private boolean runsInside(long dx, long dy) {
            for (int i = 0; i < SIDES; i++) {
                if (a[i] * dx + b[i] * dy < 0) {
                    return false;
                }
            }
            return true;
        }

        private long cornerPart(int corner, int what) {
            switch (what) {
                case 0:
                    return topX[corner];
                case 1:
                    return lowX[corner];
                case 2:
                    return topY[corner];
                default:
                    return lowY[corner];
            }
        }

        private int boxSide(int what) {
            switch (what) {
                case 0:
                    return least(topX, lowX);
                case 1:
                    return least(topY, lowY);
                case 2:
                    return greatest(topX, lowX);
                default:
                    return greatest(topY, lowY);
            }
        }

        private int least(long[] top, long[] low) {
            long least = Long.MAX_VALUE;
            for (int i = 0; i < corners; i++) {
                least = Math.min(least, floor(top[i], low[i]));
            }
            return (int) least;
        }

        private int greatest(long[] top, long[] low) {
            long greatest = Long.MIN_VALUE;
            for (int i = 0; i < corners; i++) {
                greatest = Math.max(greatest, -floor(-top[i], low[i]));
            }
            return (int) greatest;
        }

        private static long floor(long top, long low) {
            return low > 1 ? Math.floorDiv(top, low) : top;
        }
    }

    /** The shapes that were plotted, and the tracks that they make. */
    private static final class Plots {
        private final int[] first = new int[MOST_PLOTS];
        private final int[] second = new int[MOST_PLOTS];
        private final int[] minute = new int[MOST_PLOTS];
        private final int[] trackOf = new int[MOST_PLOTS];
        private final int[] left = new int[MOST_PLOTS];
        private final int[] bottom = new int[MOST_PLOTS];
        private final int[] right = new int[MOST_PLOTS];
        private final int[] top = new int[MOST_PLOTS];
        private final int[] latest = new int[MOST_PLOTS];
        private int size = 0;
        private int tracks = 0;
        private int trackSpeed = FIRST_SPEED;

        private boolean takes(int one, int other) {
            for (int p = 0; p < size; p++) {
                boolean sameWay = first[p] == one && second[p] == other;
                boolean otherWay = first[p] == other && second[p] == one;
                if (sameWay || otherWay) {
                    return false;
                }
            }
            return size < MOST_PLOTS;
        }

        private int add(int one, int other, int when, Shape shape) {
            if (size >= MOST_PLOTS) {
                return NONE;
            }
            int p = size;
            first[p] = one;
            second[p] = other;
            minute[p] = when;
            left[p] = shape.boxSide(0);
            bottom[p] = shape.boxSide(1);
            right[p] = shape.boxSide(2);
            top[p] = shape.boxSide(3);
            int t = nearestTrack(p);
            if (t == NONE) {
                t = tracks;
                tracks++;
            }
            trackOf[p] = t;
            latest[t] = p;
            size++;
            return t;
        }

        private int nearestTrack(int p) {
            int nearest = NONE;
            long least = 0;
            for (int t = 0; t < tracks; t++) {
                int before = latest[t];
                if (minute[before] >= minute[p]) {
                    continue;
                }
                long squared = squaredDistance(before, p);
                long way = (long) trackSpeed * (minute[p] - minute[before]);
                if (squared <= way * way && (nearest == NONE || squared < least)) {
                    nearest = t;
                    least = squared;
                }
            }
            return nearest;
        }

        private long squaredDistance(int p, int q) {
            long dx = gap(left[p], right[p], left[q], right[q]);
            long dy = gap(bottom[p], top[p], bottom[q], top[q]);
            return dx * dx + dy * dy;
        }

        private static long gap(int low, int high, int otherLow, int otherHigh) {
            if (otherLow > high) {
                return (long) otherLow - high;
            }
            return low > otherHigh ? (long) low - otherHigh : 0;
        }

        private int partOf(int p, int what) {
            if (!isWithin(p, 0, size - 1)) {
                return NONE;
            }
            switch (what) {
                case 0:
                    return trackOf[p];
                case 1:
                    return first[p];
                case 2:
                    return second[p];
                case 3:
                    return minute[p];
                default:
                    return NONE;
            }
        }
    }

    /** The boats, every plan that was told and when, and who came in. */
    private static final class Boats {
        private final int[] planBoat = new int[MOST_PLANS];
        private final int[] planLeaving = new int[MOST_PLANS];
        private final int[] planEnd = new int[MOST_PLANS];
        private final int[] planTold = new int[MOST_PLANS];
        private final int[] lastPlan = new int[MOST_BOATS];
        private final int[] inMinute = new int[MOST_BOATS];
        private int plans = 0;
        private int size = 0;

        private boolean hasBoat(int boat) {
            return isWithin(boat, 0, size - 1);
        }

        private boolean isIn(int boat) {
            return inMinute[boat] != NONE;
        }

        private boolean takesPlan(int boat) {
            if (plans >= MOST_PLANS) {
                return false;
            }
            if (hasBoat(boat)) {
                return !isIn(boat);
            }
            return boat == size && size < MOST_BOATS;
        }

        /** Only for a boat and a time for which takesPlan has answered true. */
        private void addPlan(int boat, int leaving, int end, int told) {
            if (boat == size) {
                inMinute[boat] = NONE;
                size++;
            }
            planBoat[plans] = boat;
            planLeaving[plans] = leaving;
            planEnd[plans] = end;
            planTold[plans] = told;
            lastPlan[boat] = plans;
            plans++;
        }

        private int stateOf(int boat, int minute, int known) {
            int plan = planKnown(boat, known);
            if (plan == NONE) {
                return NOTHING_TOLD;
            }
            int in = inMinute[boat];
            if (in != NONE && in <= minute && in <= known) {
                return CAME_IN;
            }
            if (minute < planLeaving[plan]) {
                return NOT_OFF;
            }
            return minute <= planEnd[plan] ? UNDER_WAY : OVERDUE;
        }

        private int planKnown(int boat, int known) {
            for (int p = plans - 1; p >= 0; p--) {
                if (planBoat[p] == boat && planTold[p] <= known) {
                    return p;
                }
            }
            return NONE;
        }

        private int overdueAt(int minute) {
            int overdue = 0;
            for (int boat = 0; boat < size; boat++) {
                if (!isIn(boat) && minute >= firstOverdue(boat)) {
                    overdue++;
                }
            }
            return overdue;
        }

        /** By the plan told last, which is what is known as minutes go by. */
        private int firstOverdue(int boat) {
            return planEnd[lastPlan[boat]] + 1;
        }
    }

    /** The rules by which somebody is called, and the calls that were written. */
    private static final class CallLog {
        private final int[] delay = new int[RULES];
        private final int[] lineBoat = new int[LINES_KEPT];
        private final int[] lineRule = new int[LINES_KEPT];
        private final int[] lineMinute = new int[LINES_KEPT];
        private int written = 0;

        private CallLog() {
            Arrays.fill(delay, NONE);
        }

        /** Writes the calls of the minutes behind from, up to to. Goes from call to call, as most minutes have none. */
        private void writeMinutes(int from, int to, Boats boats) {
            int minute = nextCall(from, boats);
            // Nothing is told meanwhile, so each rule calls for each boat in one minute at most.
            for (int i = 0; i < MOST_BOATS * RULES && minute != NONE && minute <= to; i++) {
                writeMinute(minute, boats);
                minute = nextCall(minute, boats);
            }
        }

        private int nextCall(int after, Boats boats) {
            int next = NONE;
            for (int boat = 0; boat < boats.size; boat++) {
                for (int rule = 0; rule < RULES; rule++) {
                    int minute = callMinute(boat, rule, boats);
                    if (minute > after && (next == NONE || minute < next)) {
                        next = minute;
                    }
                }
            }
            return next;
        }

        private int callMinute(int boat, int rule, Boats boats) {
            if (delay[rule] == NONE || boats.isIn(boat)) {
                return NONE;
            }
            return boats.firstOverdue(boat) + delay[rule];
        }

        private void writeMinute(int minute, Boats boats) {
            for (int boat = 0; boat < boats.size; boat++) {
                for (int rule = 0; rule < RULES; rule++) {
                    if (callMinute(boat, rule, boats) == minute) {
                        writeLine(boat, rule, minute);
                    }
                }
            }
        }

        private void writeLine(int boat, int rule, int minute) {
            if (written < LINES_KEPT) {
                lineBoat[written] = boat;
                lineRule[written] = rule;
                lineMinute[written] = minute;
            }
            written++;
        }

        private int partOf(int i, int what) {
            if (!isWithin(i, 0, Math.min(written, LINES_KEPT) - 1)) {
                return NONE;
            }
            switch (what) {
                case 0:
                    return lineBoat[i];
                case 1:
                    return lineRule[i];
                case 2:
                    return lineMinute[i];
                default:
                    return NONE;
            }
        }
    }
}
