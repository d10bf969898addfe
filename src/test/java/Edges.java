import java.util.ArrayList;
import java.util.List;
import java.util.NoSuchElementException;

/**
 * Checks of the edges that the document names, each under the promise that it belongs to. What is refused
 * is held against a twin, made by the same calls, that was not asked.
 */
final class Edges {
    static final int NONE = -1;
    static final int HIDDEN = -1000000;
    static final long THROWN = Long.MIN_VALUE;
    static final int NO_STATUS = -1;
    private static final int PROMISES = 41;
    private static final int STATUSES = 5;

    interface Making {
        BlindSpots make();
    }

    interface Call {
        long on(BlindSpots x);
    }

    interface CallWith {
        long on(BlindSpots x, int value);
    }

    private final Checks checks;
    private final int[] met = new int[PROMISES + 1];

    Edges(String name) {
        checks = new Checks(name);
    }

    void due(int promise, String sentence, long got, long want) {
        met[promise]++;
        checks.due("promise " + promise + ": " + sentence, got, want);
    }

    void yes(int promise, String sentence, boolean is) {
        due(promise, sentence, is ? 1 : 0, 1);
    }

    /** The answer is as told, one STATUS (or none) is one more, and nothing else has changed. */
    void refused(int promise, String sentence, Making making, Call call, long answer, int status) {
        BlindSpots asked = making.make();
        BlindSpots twin = making.make();
        due(promise, sentence, call.on(asked), answer);
        for (int what = 0; what < STATUSES; what++) {
            due(promise, sentence + ", STATUS " + what, asked.status(what),
                    twin.status(what) + (what == status ? 1 : 0));
        }
        List<Long> story = story(asked);
        List<Long> told = story(twin);
        int same = 0;
        while (same < story.size() && same < told.size() && story.get(same).equals(told.get(same))) {
            same++;
        }
        yes(promise, sentence + ", it changes nothing (answer " + same + " of the story)",
                same == story.size() && same == told.size());
    }

    void refusedEach(int promise, String sentence, Making making, CallWith call, int[] values, long answer,
            int status) {
        for (int value : values) {
            refused(promise, sentence + " (" + value + ")", making, x -> call.on(x, value), answer, status);
        }
    }

    /** What lies just outside of the bounds, and far. */
    static int[] outside(int least, int most) {
        return new int[] {least - 1, most + 1, Integer.MIN_VALUE, Integer.MAX_VALUE};
    }

    static long tower(BlindSpots x, int tower, int what) {
        try {
            return x.tower(tower, what);
        } catch (NoSuchElementException e) {
            return THROWN;
        }
    }

    static long of(boolean is) {
        return is ? 1 : 0;
    }

    /** Some 300 calls, so that an object with a long run behind it stays within its 512. */
    private static List<Long> story(BlindSpots x) {
        List<Long> told = new ArrayList<>();
        asItIs(x, told);
        for (int i = 0; i <= 60; i++) {
            told.add((long) x.log(i, i % 3));
        }
        for (int cell = 0; cell < x.count(0); cell++) {
            told.add((long) x.heights(cell, NONE));
        }
        told.add((long) x.fault(0));
        told.add((long) x.fault(1));
        for (int k = 0; k <= 40; k++) {
            told.add((long) x.undo());
            told.add((long) x.rule(2) * 10 + x.rule(3));
        }
        told.add((long) x.back());
        asItIs(x, told);
        return told;
    }

    private static void asItIs(BlindSpots x, List<Long> told) {
        for (int what = 0; what <= 10; what++) {
            told.add((long) x.count(what));
        }
        for (int what = 2; what <= 3; what++) {
            told.add((long) x.rule(what));
        }
        int cells = x.count(0);
        for (int cell = 0; cell < cells; cell++) {
            told.add((long) x.height(cell));
        }
        int towers = x.count(1);
        for (int tower = 0; tower < towers; tower++) {
            for (int what = 0; what <= 5; what++) {
                told.add(tower(x, tower, what));
            }
        }
        told.add((long) x.most(8));
        told.add((long) x.most(9));
    }

    /** One of these promises without a check is a fault of the test. */
    void meets(int first, int last) {
        for (int promise = first; promise <= last; promise++) {
            checks.yes("promise " + promise + " is met", met[promise] > 0);
        }
    }

    void end() {
        checks.end();
    }
}
