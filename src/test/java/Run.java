import java.util.ArrayList;
import java.util.List;
import java.util.NoSuchElementException;

/** One object with every answer that it gave (a boolean counts 1 or 0); it is asked no more than 512 times. */
final class Run {
    static final long THROWN = Long.MIN_VALUE;
    private static final int CALLS = 512;

    final List<Long> answers = new ArrayList<>();
    private final CoastWatch watch = new CoastWatch();

    private long keep(long answer) {
        if (answers.size() == CALLS) {
            throw new IllegalStateException("this test asks an object more than 512 times");
        }
        answers.add(answer);
        return answer;
    }

    private long keep(boolean answer) {
        return keep(answer ? 1 : 0);
    }

    long post(int x, int y, int height) {
        return keep(watch.post(x, y, height));
    }

    long reach(int x, int y) {
        return keep(watch.reach(x, y));
    }

    long weather(int hour, int visibility) {
        return keep(watch.weather(hour, visibility));
    }

    long sees(int post, int x, int y, int hour) {
        return keep(watch.sees(post, x, y, hour));
    }

    long manned(int hour) {
        return keep(watch.manned(hour));
    }

    long open(int hour) {
        return keep(watch.open(hour));
    }

    long sight(int post, int a, int b, int c, int d) {
        return keep(watch.sight(post, a, b, c, d));
    }

    long plot(int one, int other) {
        return keep(watch.plot(one, other));
    }

    long corners(int one, int other) {
        return keep(watch.corners(one, other));
    }

    long corner(int one, int other, int i, int what) {
        try {
            return keep(watch.corner(one, other, i, what));
        } catch (NoSuchElementException e) {
            return keep(THROWN);
        }
    }

    long box(int one, int other, int what) {
        try {
            return keep(watch.box(one, other, what));
        } catch (NoSuchElementException e) {
            return keep(THROWN);
        }
    }

    long plotted(int one, int other) {
        return keep(watch.plotted(one, other));
    }

    long speed(int speed) {
        return keep(watch.speed(speed));
    }

    long track(int p, int what) {
        return keep(watch.track(p, what));
    }

    long plan(int boat, int leaving, int due, int grace) {
        return keep(watch.plan(boat, leaving, due, grace));
    }

    long in(int boat) {
        return keep(watch.in(boat));
    }

    long boat(int boat, int minute, int known) {
        return keep(watch.boat(boat, minute, known));
    }

    long call(int k, int minutes) {
        return keep(watch.call(k, minutes));
    }

    long step(int n) {
        return keep(watch.step(n));
    }

    long log(int i, int what) {
        return keep(watch.log(i, what));
    }

    long count(int what) {
        return keep(watch.count(what));
    }
}
