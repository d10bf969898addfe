import java.util.ArrayDeque;
import java.util.ArrayList;
import java.util.Deque;
import java.util.List;
import java.util.NoSuchElementException;

/** The document told a second time, as plainly as can be, to hold the class against. */
final class Model {
    private static final int NONE = -1;
    private static final int HIDDEN = -1000000;

    private String tape = "";
    private final List<String> laws = new ArrayList<>();
    private int holding = NONE;
    private int mistNow = 3;
    private final int[] refused = new int[5];
    private ModelLand now = null;
    private ModelLand told = null;
    private ModelLand picture = null;
    private final List<ModelLand> acts = new ArrayList<>();
    private final List<int[]> givens = new ArrayList<>();
    private final List<int[]> heards = new ArrayList<>();

    private String ruling() {
        return holding == NONE ? null : laws.get(holding);
    }

    private boolean cell(int c) {
        return now != null && c >= 0 && c < now.cells();
    }

    private boolean isTower(int t) {
        return now != null && t >= 0 && t < now.towers();
    }

    int feed(int a, int b, int c, int d, int e) {
        StringBuilder more = new StringBuilder(tape);
        for (int word : new int[] {a, b, c, d, e}) {
            for (byte one : java.nio.ByteBuffer.allocate(4).putInt(word).array()) {
                if (one != 0) {
                    more.append((char) (one & 255));
                }
            }
        }
        if (more.length() > 240) {
            return NONE;
        }
        tape = more.toString();
        return tape.length();
    }

    boolean end(int n) {
        if (n < 0 || n > tape.length()) {
            return false;
        }
        tape = tape.substring(0, n);
        return true;
    }

    int fault(int sort) {
        return sort == 0 ? ModelLand.fault(tape, null) : sort == 1 ? ModelLaw.fault(tape) : -2;
    }

    int text(int sort) {
        if (sort == 0 && fault(0) == NONE) {
            told = new ModelLand();
            ModelLand.fault(tape, told);
            now = told.copy();
            picture = null;
            acts.clear();
            givens.clear();
            heards.clear();
            tape = "";
            return now.cells();
        }
        if (sort == 1 && fault(1) == NONE && laws.size() < 4) {
            laws.add(tape);
            tape = "";
            return laws.size() - 1;
        }
        return NONE;
    }

    int rule(int what) {
        return now == null || what < 0 || what > 3 ? NONE
                : new int[] {now.wide, now.rows, now.coins, now.fog}[what];
    }

    int height(int c) {
        return cell(c) ? now.height[c] : NONE;
    }

    int tower(int t, int what) {
        if (!isTower(t) || what < 0 || what > 5) {
            throw new NoSuchElementException();
        }
        return new int[] {now.place[t], now.mast[t], now.lamp[t], now.reach(t, ruling()),
            now.broken[t] ? 1 : 0, Integer.bitCount(sight(now, t))}[what];
    }

    boolean law(int n) {
        if (n < -1 || n >= laws.size()) {
            return false;
        }
        holding = n;
        return true;
    }

    private int refuse(int why) {
        refused[why]++;
        return NONE;
    }

    private void act() {
        acts.add(now.copy());
        if (acts.size() > 40) {
            acts.remove(0);
        }
    }

    int hours(int n) {
        if (now == null) {
            return refuse(0);
        }
        if (n < 1 || n > 60) {
            return refuse(1);
        }
        if (now.hour + n > 9999) {
            return refuse(4);
        }
        for (int k = 0; k < n; k++) {
            act();
            now.passHour(ruling());
        }
        return now.hour;
    }

    int heap(int c) {
        if (!cell(c)) {
            return refuse(0);
        }
        if (now.height[c] == 9) {
            return refuse(2);
        }
        if (now.coins == 0) {
            return refuse(3);
        }
        act();
        now.coins--;
        return ++now.height[c];
    }

    int dig(int c) {
        if (!cell(c)) {
            return refuse(0);
        }
        if (now.height[c] == 0) {
            return refuse(2);
        }
        if (now.coins == 0) {
            return refuse(3);
        }
        act();
        now.coins--;
        return --now.height[c];
    }

    int mast(int t) {
        if (!isTower(t)) {
            return refuse(0);
        }
        if (now.mast[t] == 9) {
            return refuse(2);
        }
        if (now.coins < 2) {
            return refuse(3);
        }
        act();
        now.coins -= 2;
        return ++now.mast[t];
    }

    int moves(int t, int c) {
        if (!isTower(t)) {
            return refuse(0);
        }
        if (!cell(c)) {
            return refuse(1);
        }
        if (now.place[t] == c) {
            return refuse(2);
        }
        if (now.coins < 3) {
            return refuse(3);
        }
        act();
        now.coins -= 3;
        int was = now.place[t];
        now.place[t] = c;
        return was;
    }

    int fog(int v) {
        if (now == null) {
            return refuse(0);
        }
        if (v < 0 || v > 9) {
            return refuse(1);
        }
        if (v == now.fog) {
            return refuse(2);
        }
        act();
        int was = now.fog;
        now.fog = v;
        return was;
    }

    int oath(int t) {
        if (!isTower(t)) {
            return refuse(0);
        }
        act();
        now.broken[t] = !now.broken[t];
        return now.broken[t] ? 1 : 0;
    }

    int give(int n) {
        if (now == null) {
            return refuse(0);
        }
        if (n < 1 || n > 50 || now.coins + n > 999) {
            return refuse(1);
        }
        act();
        now.coins += n;
        return now.coins;
    }

    boolean mist(int v) {
        if (v < 0 || v > 9 || v == mistNow) {
            return false;
        }
        mistNow = v;
        return true;
    }

    private static final class Draws {
        private long x;

        Draws(long seed) {
            x = seed;
        }

        int of(int j) {
            x = x * 6364136223846793005L + 1442695040888963407L;
            return (int) Long.remainderUnsigned(x >>> 33, j);
        }
    }

    int years(int n, long seed) {
        if (now == null || n < 1 || n > 60 || now.hour + n > 9999) {
            return NONE;
        }
        Draws draws = new Draws(seed);
        for (int k = 0; k < n; k++) {
            act();
            int c = draws.of(now.cells());
            int h = now.height[c] + draws.of(3) - 1;
            now.height[c] = h < 0 ? 0 : h > 9 ? 9 : h;
            if (draws.of(10) < mistNow) {
                now.fog = now.fog > 7 ? 9 : now.fog + 2;
            }
            now.passHour(ruling());
        }
        return now.hour;
    }

    int status(int what) {
        return what < 0 || what > 4 ? NONE : refused[what];
    }

    int undo() {
        if (acts.isEmpty()) {
            return NONE;
        }
        now = acts.remove(acts.size() - 1);
        return acts.size();
    }

    int log(int i, int what) {
        return now == null || i < 0 || i >= now.log.size() || what < 0 || what > 2 ? NONE
                : now.log.get(i)[what];
    }

    private int sight(ModelLand land, int t) {
        int bits = 0;
        for (int c = 0; c < land.cells(); c++) {
            bits |= land.sees(t, c, ruling()) ? 1 << c : 0;
        }
        return bits;
    }

    private int all() {
        return (1 << now.cells()) - 1;
    }

    int sees(int t, int c) {
        return !isTower(t) || !cell(c) ? NONE : now.sees(t, c, ruling()) ? 1 : 0;
    }

    int map(int t, int what) {
        if (!isTower(t) || what < 0 || what > 2) {
            return NONE;
        }
        int sight = sight(now, t);
        if (what == 2) {
            int alone = 0;
            for (int c = 0; c < now.cells(); c++) {
                if (now.sees(t, c, ruling()) && now.howManySee(c, ruling()) == 1) {
                    alone += 1 << c;
                }
            }
            return alone;
        }
        return what == 1 && now.broken[t] ? sight : all() - sight;
    }

    private int[] stepsTo(int to) {
        int[] steps = new int[now.cells()];
        java.util.Arrays.fill(steps, NONE);
        if (!now.hid(to, ruling())) {
            return steps;
        }
        Deque<Integer> queue = new ArrayDeque<>();
        queue.add(to);
        steps[to] = 0;
        while (!queue.isEmpty()) {
            int c = queue.remove();
            for (int next : now.beside(c)) {
                if (steps[next] == NONE && now.hid(next, ruling())) {
                    steps[next] = steps[c] + 1;
                    queue.add(next);
                }
            }
        }
        return steps;
    }

    int way(int from, int to, int what) {
        if (!cell(from) || !cell(to) || what < 0 || what > 1) {
            return NONE;
        }
        int[] steps = stepsTo(to);
        if (what == 0 || steps[from] == NONE) {
            return steps[from];
        }
        for (int next : now.beside(from)) {
            if (steps[next] != NONE && steps[next] == steps[from] - 1) {
                return next;
            }
        }
        return NONE;
    }

    /** Grows the CELLS that k open ones suffice for, k by k. */
    int risk(int from, int to) {
        if (!cell(from) || !cell(to)) {
            return NONE;
        }
        boolean[] open = new boolean[now.cells()];
        int[] best = new int[now.cells()];
        for (int c = 0; c < open.length; c++) {
            open[c] = !now.hid(c, ruling());
            best[c] = 99;
        }
        best[from] = open[from] ? 1 : 0;
        for (int k = 0; k <= open.length; k++) {
            Deque<Integer> queue = new ArrayDeque<>();
            for (int c = 0; c < open.length; c++) {
                if (best[c] == k) {
                    queue.add(c);
                }
            }
            while (!queue.isEmpty()) {
                int c = queue.remove();
                for (int next : now.beside(c)) {
                    int toll = k + (open[next] ? 1 : 0);
                    if (toll < best[next]) {
                        best[next] = toll;
                        if (toll == k) {
                            queue.add(next);
                        }
                    }
                }
            }
        }
        return best[to];
    }

    int enough() {
        if (now == null) {
            return NONE;
        }
        int union = 0;
        for (int t = 0; t < now.towers(); t++) {
            union |= sight(now, t);
        }
        for (int size = 0; size <= 4; size++) {
            for (int some = 0; some < 1 << now.towers(); some++) {
                int part = 0;
                for (int t = 0; t < now.towers(); t++) {
                    part |= (some >> t & 1) == 1 ? sight(now, t) : 0;
                }
                if (Integer.bitCount(some) == size && part == union) {
                    return some;
                }
            }
        }
        throw new IllegalStateException();
    }

    int site(int mast, int reach, int what) {
        if (now == null || mast < 0 || mast > 9 || reach < 0 || reach > 9 || what < 0 || what > 1) {
            return NONE;
        }
        int best = NONE;
        int fewest = 99;
        for (int at = now.cells() - 1; at >= 0; at--) {
            int left = 0;
            for (int c = 0; c < now.cells(); c++) {
                left += now.hid(c, ruling()) && !now.looks(at, mast, reach, c) ? 1 : 0;
            }
            if (left <= fewest) {
                best = at;
                fewest = left;
            }
        }
        return what == 0 ? best : fewest;
    }

    int watched(int k) {
        if (now == null || k < 1 || k > 4) {
            return NONE;
        }
        int bits = 0;
        for (int c = 0; c < now.cells(); c++) {
            bits |= now.howManySee(c, ruling()) >= k ? 1 << c : 0;
        }
        return bits;
    }

    int given(int t, int c, boolean is) {
        if (!isTower(t) || !cell(c) || givens.size() == 10) {
            return NONE;
        }
        givens.add(new int[] {t, c, is ? 1 : 0});
        return givens.size();
    }

    private List<Integer> fitting(int c) {
        List<Integer> found = new ArrayList<>();
        for (int h = 0; h <= 9; h++) {
            ModelLand land = told.copy();
            land.height[c] = h;
            boolean fits = true;
            for (int[] one : givens) {
                fits &= one[1] != c || land.sees(one[0], c, ruling()) == (one[2] == 1);
            }
            if (fits) {
                found.add(h);
            }
        }
        return found;
    }

    int heights(int c, int i) {
        if (!cell(c)) {
            return NONE;
        }
        List<Integer> found = fitting(c);
        return i == NONE ? found.size() : i < 0 || i >= found.size() ? NONE : found.get(i);
    }

    int ask(int c) {
        if (!cell(c) || fitting(c).isEmpty()) {
            return NONE;
        }
        int best = NONE;
        int least = 99;
        for (int t = told.towers() - 1; t >= 0; t--) {
            int yes = 0;
            int no = 0;
            for (int h : fitting(c)) {
                ModelLand land = told.copy();
                land.height[c] = h;
                if (land.sees(t, c, ruling())) {
                    yes++;
                } else {
                    no++;
                }
            }
            if (Math.abs(yes - no) <= least) {
                least = Math.abs(yes - no);
                best = t;
            }
        }
        return best;
    }

    int heard(int t, int cells) {
        if (!isTower(t) || cells < 0 || cells > all() || heards.size() == 10) {
            return NONE;
        }
        heards.add(new int[] {t, cells});
        return heards.size();
    }

    private int[] play(int one, int other, int x, int y) {
        ModelLand land = now.copy();
        land.mast[one] = Math.min(9, land.mast[one] + x);
        land.mast[other] = Math.min(9, land.mast[other] + y);
        int[] has = {-x, -y};
        for (int c = 0; c < land.cells(); c++) {
            boolean a = land.sees(one, c, ruling());
            boolean b = land.sees(other, c, ruling());
            has[0] += a && !b ? 1 : 0;
            has[1] += b && !a ? 1 : 0;
        }
        return has;
    }

    int game(int one, int other, int x, int y, int what) {
        if (!isTower(one) || !isTower(other) || one == other || x < 0 || x > 3 || y < 0 || y > 3
                || what < 0 || what > 1) {
            return HIDDEN;
        }
        return play(one, other, x, y)[what];
    }

    int rests(int one, int other, int i) {
        if (!isTower(one) || !isTower(other) || one == other) {
            return NONE;
        }
        List<Integer> found = new ArrayList<>();
        for (int x = 0; x < 4; x++) {
            for (int y = 0; y < 4; y++) {
                int[] has = play(one, other, x, y);
                boolean rest = true;
                for (int z = 0; z < 4; z++) {
                    rest &= play(one, other, z, y)[0] <= has[0];
                    rest &= play(one, other, x, z)[1] <= has[1];
                }
                if (rest) {
                    found.add(10 * x + y);
                }
            }
        }
        return i == NONE ? found.size() : i < 0 || i >= found.size() ? NONE : found.get(i);
    }

    int odds(int c, int n, int chance) {
        if (!cell(c) || n < 0 || n > 8 || chance < 0 || chance > 100) {
            return NONE;
        }
        // Every way of rises and falls, told by the bits of a number, is a part of its own.
        long hid = 0;
        for (int way = 0; way < 1 << n; way++) {
            ModelLand land = now.copy();
            long part = 1000000000L;
            for (int k = 0; k < n; k++) {
                boolean up = (way >> k) % 2 == 1;
                part = up ? part * chance / 100 : part - part * chance / 100;
                land.fog = up ? Math.min(9, land.fog + 1) : Math.max(0, land.fog - 1);
                land.hour++;
            }
            hid += part > 0 && land.hid(c, ruling()) ? part : 0;
        }
        return (int) hid;
    }

    int shares(int t, int c) {
        if (!isTower(t) || c < 0 || c > 999) {
            return NONE;
        }
        int sum = 0;
        for (int each = 0; each < now.towers(); each++) {
            sum += Integer.bitCount(sight(now, each));
        }
        return sum == 0 ? 0 : c * Integer.bitCount(sight(now, t)) / sum;
    }

    int most(int what) {
        if (now == null || what < 0 || what > 9) {
            return NONE;
        }
        switch (what) {
            case 0:
            case 1:
                return extremeCell(what == 0);
            case 2:
            case 3:
                return extremeTower(what == 2);
            case 4:
                return now.brokenBits();
            case 7:
                return mutual();
            case 9:
                return falseOnes();
            default:
                return overCells(what);
        }
    }

    private int extremeCell(boolean high) {
        for (int step = 0; step <= 9; step++) {
            for (int c = 0; c < now.cells(); c++) {
                if (now.height[c] == (high ? 9 - step : step)) {
                    return c;
                }
            }
        }
        throw new IllegalStateException();
    }

    private int extremeTower(boolean high) {
        for (int step = 0; step <= 30; step++) {
            for (int t = 0; t < now.towers(); t++) {
                if (Integer.bitCount(sight(now, t)) == (high ? 30 - step : step)) {
                    return t;
                }
            }
        }
        throw new IllegalStateException();
    }

    private int mutual() {
        int pairs = 0;
        for (int a = 0; a < now.towers(); a++) {
            for (int b = 0; b < a; b++) {
                pairs += now.sees(a, now.place[b], ruling()) && now.sees(b, now.place[a], ruling()) ? 1 : 0;
            }
        }
        return pairs;
    }

    private int falseOnes() {
        int bits = 0;
        for (int[] one : heards) {
            bits |= one[1] == all() - sight(now, one[0]) ? 0 : 1 << one[0];
        }
        return bits;
    }

    private int overCells(int what) {
        int bits = 0;
        for (int c = 0; c < now.cells(); c++) {
            boolean is = what == 6 ? now.height[c] < now.fog : what == 8 && now.hid(c, ruling());
            if (what == 5) {
                for (int next : now.beside(c)) {
                    is |= now.height[next] == now.height[c];
                }
            }
            bits |= is ? 1 << c : 0;
        }
        return what == 5 ? Integer.bitCount(bits) : bits;
    }

    int image() {
        if (now == null) {
            return NONE;
        }
        picture = now.copy();
        return now.hour;
    }

    int back() {
        if (picture == null) {
            return NONE;
        }
        now = picture.copy();
        acts.clear();
        return now.hour;
    }

    int count(int what) {
        boolean none = now == null;
        int[] counts = {none ? 0 : now.cells(), none ? 0 : now.towers(), laws.size(), tape.length(),
            holding, none ? 0 : now.hour, mistNow, givens.size(), heards.size(),
            none ? 0 : now.log.size(), acts.size()};
        return what < 0 || what >= counts.length ? HIDDEN : counts[what];
    }
}
