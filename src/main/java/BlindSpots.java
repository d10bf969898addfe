import java.util.Arrays;
import java.util.NoSuchElementException;

/** Maps drawn by what is hidden; the document's numbered promises say what each call answers. */
public final class BlindSpots {
    public static final int NONE = -1;
    public static final int HIDDEN = -1000000;

    private static final int NO_SORT = -2;

    private static final int MOST_LAWS = 4;
    private static final int MOST_HOURS = 60;
    private static final int LAST_HOUR = 9999;
    private static final int MOST_COINS = 999;
    private static final int MOST_GIFT = 50;
    private static final int MOST_SHARED = 999;
    private static final int NINE = 9;
    private static final int HEAP_COST = 1;
    private static final int MAST_COST = 2;
    private static final int MOVE_COST = 3;

    private static final int NO_SUCH = 0;
    private static final int OUT_OF_BOUNDS = 1;
    private static final int IT_IS_SO = 2;
    private static final int TOO_FEW_COINS = 3;
    private static final int TOO_LATE = 4;
    private static final int REFUSALS = 5;

    private static final long DRAW_FACTOR = 6364136223846793005L;
    private static final long DRAW_ADDEND = 1442695040888963407L;
    private static final int DRAW_SHIFT = 33;
    private static final int FIRST_MIST = 3;

    private static final int ODDS_HOURS = 8;
    private static final int WHOLE_CHANCE = 100;
    private static final long ALL_PARTS = 1000000000L;

    private final Tape tape = new Tape();
    private final LandReader landReader = new LandReader(tape);
    private final LawReader lawReader = new LawReader(tape);
    private final Law[] laws = new Law[MOST_LAWS];
    private int lawCount = 0;
    private int holding = NONE;
    private int mistBound = FIRST_MIST;
    private final int[] refusals = new int[REFUSALS];
    private final Scene now = new Scene();
    private final Scene told = new Scene();
    private final Scene trial = new Scene();
    private final Past past = new Past();
    private final Hearsay hearsay = new Hearsay();
    private final Paths paths = new Paths();
    private final Duel duel = new Duel();
    private long drawn = 0;

    public BlindSpots() {
    }

    // ---- texts ----

    public int feed(int a, int b, int c, int d, int e) {
        int more = Tape.bytesIn(a) + Tape.bytesIn(b) + Tape.bytesIn(c)
                + Tape.bytesIn(d) + Tape.bytesIn(e);
        if (tape.length + more > Tape.MOST_BYTES) {
            return NONE;
        }
        tape.append(a);
        tape.append(b);
        tape.append(c);
        tape.append(d);
        tape.append(e);
        return tape.length;
    }

    public boolean end(int n) {
        if (n < 0 || n > tape.length) {
            return false;
        }
        tape.length = n;
        return true;
    }

    public int fault(int sort) {
        if (sort == 0) {
            return landReader.read();
        }
        return sort == 1 ? lawReader.read() : NO_SORT;
    }

    public int text(int sort) {
        if (sort == 0) {
            return takeLand();
        }
        return sort == 1 ? takeLaw() : NONE;
    }

    private int takeLand() {
        if (landReader.read() != NONE) {
            return NONE;
        }
        landReader.lay(told);
        now.become(told);
        past.forget();
        hearsay.forget();
        tape.length = 0;
        return now.cells;
    }

    private int takeLaw() {
        if (lawCount >= MOST_LAWS || lawReader.read() != NONE) {
            return NONE;
        }
        laws[lawCount] = lawReader.made();
        lawCount++;
        tape.length = 0;
        return lawCount - 1;
    }

    // ---- how it is now ----

    public int rule(int what) {
        if (noLand()) {
            return NONE;
        }
        switch (what) {
            case 0:
                return now.wide;
            case 1:
                return now.rows;
            case 2:
                return now.coins;
            case 3:
                return now.fog;
            default:
                return NONE;
        }
    }

    public int height(int cell) {
        return now.hasCell(cell) ? now.ground[cell] : NONE;
    }

    public int tower(int tower, int what) throws NoSuchElementException {
        if (!now.hasTower(tower) || what < 0 || what > 5) {
            throw new NoSuchElementException("no such tower, or nothing such of it");
        }
        switch (what) {
            case 0:
                return now.places[tower];
            case 1:
                return now.masts[tower];
            case 2:
                return now.lamps[tower];
            case 3:
                return now.reach(tower, ruling());
            case 4:
                return now.broken >> tower & 1;
            default:
                return Integer.bitCount(now.sight(tower, ruling()));
        }
    }

    public boolean law(int law) {
        if (law < NONE || law >= lawCount) {
            return false;
        }
        holding = law;
        return true;
    }

    private Law ruling() {
        return holding >= 0 && holding < lawCount ? laws[holding] : null;
    }

    private boolean noLand() {
        return now.cells == 0;
    }

    // ---- acts ----

    public int hours(int n) {
        if (noLand()) {
            return refuse(NO_SUCH);
        }
        if (n < 1 || n > MOST_HOURS) {
            return refuse(OUT_OF_BOUNDS);
        }
        if (now.hour + n > LAST_HOUR) {
            return refuse(TOO_LATE);
        }
        for (int k = 0; k < n; k++) {
            past.keep(now);
            passHour();
        }
        return now.hour;
    }

    /** The HOUR goes on last: what is logged is as the HOUR that ends had it. */
    private void passHour() {
        past.write(now, Integer.bitCount(now.hidden(ruling())));
        if (now.fog > 0) {
            now.fog--;
        }
        if (now.coins < MOST_COINS) {
            now.coins++;
        }
        now.hour++;
    }

    private int refuse(int why) {
        if (why >= 0 && why < REFUSALS) {
            refusals[why]++;
        }
        return NONE;
    }

    public int heap(int cell) {
        return reshape(cell, 1, NINE);
    }

    public int dig(int cell) {
        return reshape(cell, -1, 0);
    }

    private int reshape(int cell, int change, int limit) {
        if (!now.hasCell(cell)) {
            return refuse(NO_SUCH);
        }
        if (now.ground[cell] == limit) {
            return refuse(IT_IS_SO);
        }
        if (now.coins < HEAP_COST) {
            return refuse(TOO_FEW_COINS);
        }
        past.keep(now);
        now.coins -= HEAP_COST;
        now.ground[cell] += change;
        return now.ground[cell];
    }

    public int mast(int tower) {
        if (!now.hasTower(tower)) {
            return refuse(NO_SUCH);
        }
        if (now.masts[tower] >= NINE) {
            return refuse(IT_IS_SO);
        }
        if (now.coins < MAST_COST) {
            return refuse(TOO_FEW_COINS);
        }
        past.keep(now);
        now.coins -= MAST_COST;
        now.masts[tower]++;
        return now.masts[tower];
    }

    public int moves(int tower, int cell) {
        if (!now.hasTower(tower)) {
            return refuse(NO_SUCH);
        }
        if (!now.hasCell(cell)) {
            return refuse(OUT_OF_BOUNDS);
        }
        if (now.places[tower] == cell) {
            return refuse(IT_IS_SO);
        }
        if (now.coins < MOVE_COST) {
            return refuse(TOO_FEW_COINS);
        }
        past.keep(now);
        int before = now.places[tower];
        now.coins -= MOVE_COST;
        now.places[tower] = cell;
        return before;
    }

    public int fog(int v) {
        if (noLand()) {
            return refuse(NO_SUCH);
        }
        if (v < 0 || v > NINE) {
            return refuse(OUT_OF_BOUNDS);
        }
        if (now.fog == v) {
            return refuse(IT_IS_SO);
        }
        past.keep(now);
        int before = now.fog;
        now.fog = v;
        return before;
    }

    public int oath(int tower) {
        if (!now.hasTower(tower)) {
            return refuse(NO_SUCH);
        }
        past.keep(now);
        now.broken ^= 1 << tower;
        return now.broken >> tower & 1;
    }

    public int give(int n) {
        if (noLand()) {
            return refuse(NO_SUCH);
        }
        if (n < 1 || n > MOST_GIFT || now.coins + n > MOST_COINS) {
            return refuse(OUT_OF_BOUNDS);
        }
        past.keep(now);
        now.coins += n;
        return now.coins;
    }

    public boolean mist(int v) {
        if (v < 0 || v > NINE || v == mistBound) {
            return false;
        }
        mistBound = v;
        return true;
    }

    public int years(int n, long seed) {
        if (noLand() || n < 1 || n > MOST_HOURS || now.hour + n > LAST_HOUR) {
            return NONE;
        }
        drawn = seed;
        for (int k = 0; k < n; k++) {
            past.keep(now);
            changeByDraws();
            passHour();
        }
        return now.hour;
    }

    private void changeByDraws() {
        int cell = draw(now.cells);
        int change = draw(3) - 1;
        if (now.hasCell(cell)) {
            now.ground[cell] = within(now.ground[cell] + change, 0, NINE);
        }
        if (draw(10) < mistBound) {
            now.fog = Math.min(NINE, now.fog + 2);
        }
    }

    private int draw(int sides) {
        drawn = drawn * DRAW_FACTOR + DRAW_ADDEND;
        return sides < 1 ? 0 : (int) ((drawn >>> DRAW_SHIFT) % sides);
    }

    private static int within(int value, int least, int most) {
        return Math.max(least, Math.min(most, value));
    }

    public int status(int what) {
        return what >= 0 && what < REFUSALS ? refusals[what] : NONE;
    }

    public int undo() {
        return past.takeBack(now);
    }

    public int log(int i, int what) {
        return past.read(now, i, what);
    }

    public int image() {
        if (noLand()) {
            return NONE;
        }
        past.draw(now);
        return now.hour;
    }

    public int back() {
        return past.bringBack(now) ? now.hour : NONE;
    }

    // ---- what is seen and hid ----

    public int sees(int tower, int cell) {
        if (!now.hasTower(tower) || !now.hasCell(cell)) {
            return NONE;
        }
        return now.beholds(tower, cell, ruling()) ? 1 : 0;
    }

    public int map(int tower, int what) {
        if (!now.hasTower(tower)) {
            return NONE;
        }
        int sight = now.sight(tower, ruling());
        int blind = now.allCells() & ~sight;
        switch (what) {
            case 0:
                return blind;
            case 1:
                return (now.broken >> tower & 1) == 1 ? sight : blind;
            case 2:
                return sight & ~now.unionOfSights(now.allTowers() & ~(1 << tower), ruling());
            default:
                return NONE;
        }
    }

    public int way(int from, int to, int what) {
        if (!now.hasCell(from) || !now.hasCell(to) || what < 0 || what > 1) {
            return NONE;
        }
        paths.measure(now, to, now.hidden(ruling()), 1, Paths.FAR);
        return what == 0 ? paths.steps(from) : paths.firstStep(now, from);
    }

    public int risk(int from, int to) {
        if (!now.hasCell(from) || !now.hasCell(to)) {
            return NONE;
        }
        paths.measure(now, to, now.hidden(ruling()), 0, 1);
        return paths.toll(from);
    }

    public int enough() {
        if (noLand()) {
            return NONE;
        }
        int all = now.allTowers();
        int due = now.unionOfSights(all, ruling());
        int best = all;
        for (int some = 0; some < all; some++) {
            if (Integer.bitCount(some) < Integer.bitCount(best)
                    && now.unionOfSights(some, ruling()) == due) {
                best = some;
            }
        }
        return best;
    }

    /** REACH is told, so no LAW is asked for the new TOWER; the others see as they do now. */
    public int site(int mast, int reach, int what) {
        if (noLand() || mast < 0 || mast > NINE || reach < 0 || reach > NINE
                || what < 0 || what > 1) {
            return NONE;
        }
        int hidden = now.hidden(ruling());
        int best = NONE;
        int fewest = 0;
        for (int cell = 0; cell < now.cells; cell++) {
            int sight = now.sightFrom(cell, now.ground[cell] + mast, reach);
            int left = Integer.bitCount(hidden & ~sight);
            if (best == NONE || left < fewest) {
                best = cell;
                fewest = left;
            }
        }
        return what == 0 ? best : fewest;
    }

    public int watched(int k) {
        if (noLand() || k < 1 || k > Scene.MOST_TOWERS) {
            return NONE;
        }
        return now.seenBy(k, ruling());
    }

    // ---- what was told ----

    public int given(int tower, int cell, boolean is) {
        if (!now.hasTower(tower) || !now.hasCell(cell)) {
            return NONE;
        }
        return hearsay.addGiven(tower, cell, is);
    }

    public int heights(int cell, int i) {
        if (!now.hasCell(cell)) {
            return NONE;
        }
        trial.become(told);
        int fitting = hearsay.fitting(trial, cell, ruling());
        return i == NONE ? Integer.bitCount(fitting) : bitAt(fitting, i);
    }

    private static int bitAt(int bits, int i) {
        int left = i;
        for (int k = 0; k <= NINE; k++) {
            if ((bits >> k & 1) == 1) {
                if (left == 0) {
                    return k;
                }
                left--;
            }
        }
        return NONE;
    }

    public int ask(int cell) {
        if (!now.hasCell(cell)) {
            return NONE;
        }
        trial.become(told);
        int fitting = hearsay.fitting(trial, cell, ruling());
        if (fitting == 0) {
            return NONE;
        }
        int best = NONE;
        int least = 0;
        for (int tower = 0; tower < trial.towers; tower++) {
            int apart = Hearsay.apart(trial, tower, cell, fitting, ruling());
            if (best == NONE || apart < least) {
                best = tower;
                least = apart;
            }
        }
        return best;
    }

    public int heard(int tower, int cells) {
        if (!now.hasTower(tower) || (cells & ~now.allCells()) != 0) {
            return NONE;
        }
        return hearsay.addHeard(tower, cells);
    }

    // ---- games, odds, shares ----

    public int game(int one, int other, int x, int y, int what) {
        if (!now.hasTower(one) || !now.hasTower(other) || one == other
                || !Duel.mayRaise(x) || !Duel.mayRaise(y) || what < 0 || what > 1) {
            return HIDDEN;
        }
        trial.become(now);
        duel.prepare(trial, one, other, ruling());
        return what == 0 ? duel.gainOfOne(x, y) : duel.gainOfOther(x, y);
    }

    public int rests(int one, int other, int i) {
        if (!now.hasTower(one) || !now.hasTower(other) || one == other) {
            return NONE;
        }
        trial.become(now);
        duel.prepare(trial, one, other, ruling());
        return duel.restAt(i);
    }

    public int odds(int cell, int n, int chance) {
        if (!now.hasCell(cell) || n < 0 || n > ODDS_HOURS
                || chance < 0 || chance > WHOLE_CHANCE) {
            return NONE;
        }
        return (int) partsHid(ALL_PARTS, now.fog, n, chance, fogsThatHide(cell, n));
    }

    /** FOGS (bits) by which the CELL is HID n HOURS from now; n HOURS lead to no others than these looked at. */
    private int fogsThatHide(int cell, int n) {
        trial.become(now);
        trial.hour = now.hour + n;
        int found = 0;
        for (int fog = Math.max(0, now.fog - n); fog <= Math.min(NINE, now.fog + n); fog++) {
            trial.fog = fog;
            if (!trial.isSeen(cell, ruling())) {
                found |= 1 << fog;
            }
        }
        return found;
    }

    /** Each part is cut by itself, also where another one has come to the same FOG: joined they would cut otherwise. */
    private static long partsHid(long part, int fog, int hoursLeft, int chance, int hiding) {
        if (hoursLeft <= 0 || hoursLeft > ODDS_HOURS || part <= 0) {
            return (hiding >> fog & 1) == 1 ? part : 0;
        }
        long higher = part * chance / WHOLE_CHANCE;
        return partsHid(higher, Math.min(NINE, fog + 1), hoursLeft - 1, chance, hiding)
                + partsHid(part - higher, Math.max(0, fog - 1), hoursLeft - 1, chance, hiding);
    }

    public int shares(int tower, int c) {
        if (!now.hasTower(tower) || c < 0 || c > MOST_SHARED) {
            return NONE;
        }
        int its = Integer.bitCount(now.sight(tower, ruling()));
        int all = 0;
        for (int each = 0; each < now.towers; each++) {
            all += Integer.bitCount(now.sight(each, ruling()));
        }
        return all == 0 ? 0 : c * its / all;
    }

    public int most(int what) {
        if (noLand()) {
            return NONE;
        }
        switch (what) {
            case 0:
                return now.highest(1);
            case 1:
                return now.highest(-1);
            case 2:
                return now.sharpest(1, ruling());
            case 3:
                return now.sharpest(-1, ruling());
            case 4:
                return now.broken;
            case 5:
                return now.flat();
            case 6:
                return now.lost();
            case 7:
                return now.mutual(ruling());
            case 8:
                return now.hidden(ruling());
            case 9:
                return hearsay.falseTowers(now, ruling());
            default:
                return NONE;
        }
    }

    public int count(int what) {
        switch (what) {
            case 0:
                return now.cells;
            case 1:
                return now.towers;
            case 2:
                return lawCount;
            case 3:
                return tape.length;
            case 4:
                return holding;
            case 5:
                return now.hour;
            case 6:
                return mistBound;
            case 7:
                return hearsay.givenCount;
            case 8:
                return hearsay.heardCount;
            case 9:
                return Past.logLength(now);
            case 10:
                return past.kept;
            default:
                return HIDDEN;
        }
    }

    /** The bytes fed, and the reading of them from the left; the first wrong place stops it. */
    private static final class Tape {
        static final int MOST_BYTES = 240;
        private static final int BLANK = 32;

        private final int[] bytes = new int[MOST_BYTES];
        int length = 0;
        int bad = NONE;
        private int at = 0;

        static int bytesIn(int word) {
            int found = 0;
            for (int shift = 24; shift >= 0; shift -= 8) {
                if ((word >>> shift & 255) != 0) {
                    found++;
                }
            }
            return found;
        }

        void append(int word) {
            for (int shift = 24; shift >= 0; shift -= 8) {
                int sign = word >>> shift & 255;
                if (sign != 0 && length < MOST_BYTES) {
                    bytes[length] = sign;
                    length++;
                }
            }
        }

        void rewind() {
            at = 0;
            bad = NONE;
        }

        /** The next sign behind blanks; NONE at the end, and behind a fault, so that all readers stop. */
        int peek() {
            if (bad != NONE) {
                return NONE;
            }
            for (int k = at; k < length && bytes[k] == BLANK; k++) {
                at = k + 1;
            }
            return at < length ? bytes[at] : NONE;
        }

        void step() {
            if (at < length) {
                at++;
            }
        }

        void fail() {
            if (bad == NONE) {
                bad = at;
            }
        }

        void expect(int sign) {
            if (peek() == sign) {
                step();
            } else {
                fail();
            }
        }

        static boolean isDigit(int sign) {
            return sign >= '0' && sign <= '9';
        }

        int number(int digits) {
            if (!isDigit(peek())) {
                fail();
                return 0;
            }
            int value = 0;
            for (int k = 0; k < digits && at < length && isDigit(bytes[at]); k++) {
                value = value * 10 + bytes[at] - '0';
                at++;
            }
            if (at < length && isDigit(bytes[at])) {
                fail();
            }
            return value;
        }

        /** A number of one or two digits; one out of bounds is wrong at its last digit. */
        int bounded(int least, int most) {
            int value = number(2);
            if (bad == NONE && (value < least || value > most)) {
                bad = at - 1;
            }
            return value;
        }
    }

    /** Reads the TAPE as a LAND; keeps what it read until the next reading. */
    private static final class LandReader {
        private static final int MOST_ROWS = 5;
        private static final int MOST_WIDE = 6;
        private static final int ITEMS = 4;
        private static final int MOST_CLAUSES = 11;
        private static final char[] RULE_LETTERS = {'w', 'h', 'k', 'f'};
        private static final int[] RULE_LEAST = {2, 2, 0, 0};
        private static final int[] RULE_MOST = {6, 5, 99, 9};
        private static final int[] RULE_FIRST = {4, 3, 20, 0};
        private static final char[] TOWER_LETTERS = {'x', 'y', 'm', 'l'};
        private static final int[] TOWER_LEAST = {0, 0, 0, 0};
        private static final int[] TOWER_MOST = {5, 4, 9, 9};
        private static final int[] TOWER_FIRST = {0, 0, 2, 9};

        private final Tape tape;
        private final int[] ruleItems = new int[ITEMS];
        private final int[] towerItems = new int[ITEMS * Scene.MOST_TOWERS];
        private final int[] digits = new int[MOST_ROWS * MOST_WIDE];
        private boolean rulesTold = false;
        private int towers = 0;
        private int rows = 0;
        private int longestRow = 0;

        LandReader(Tape tape) {
            this.tape = tape;
        }

        /** The FAULT of the TAPE as a LAND, or NONE. */
        int read() {
            forget();
            boolean more = true;
            for (int k = 0; k < MOST_CLAUSES && more; k++) {
                clause();
                more = tape.peek() == ';';
                if (more) {
                    tape.step();
                }
            }
            if (tape.peek() != NONE) {
                tape.fail();
            }
            if (tape.bad == NONE && !fitsTogether()) {
                return tape.length;
            }
            return tape.bad;
        }

        private void forget() {
            tape.rewind();
            rulesTold = false;
            towers = 0;
            rows = 0;
            longestRow = 0;
            Arrays.fill(digits, 0);
            System.arraycopy(RULE_FIRST, 0, ruleItems, 0, ITEMS);
        }

        private void clause() {
            int sort = tape.peek();
            if (sort == 's' && !rulesTold) {
                rulesTold = true;
                tape.step();
                items(RULE_LETTERS, RULE_LEAST, RULE_MOST, ruleItems, 0);
            } else if (sort == 't' && towers < Scene.MOST_TOWERS) {
                int base = towers * ITEMS;
                towers++;
                tape.step();
                System.arraycopy(TOWER_FIRST, 0, towerItems, base, ITEMS);
                items(TOWER_LETTERS, TOWER_LEAST, TOWER_MOST, towerItems, base);
            } else if (sort == 'r' && rows < MOST_ROWS) {
                tape.step();
                row();
                rows++;
            } else {
                tape.fail();
            }
        }

        private void row() {
            int place = 0;
            for (int k = 0; k <= MOST_WIDE && Tape.isDigit(tape.peek()); k++) {
                if (place < MOST_WIDE) {
                    digits[rows * MOST_WIDE + place] = tape.peek() - '0';
                    place++;
                    tape.step();
                } else {
                    tape.fail();
                }
            }
            longestRow = Math.max(longestRow, place);
        }

        /** One round more than there are letters: the letter too many is a fault in any case. */
        private void items(char[] letters, int[] least, int[] most, int[] into, int base) {
            int there = 0;
            for (int k = 0; k <= ITEMS && tape.peek() != NONE && tape.peek() != ';'; k++) {
                int item = placeOf(tape.peek(), letters);
                if (item == NONE || (there >> item & 1) == 1) {
                    tape.fail();
                } else {
                    there |= 1 << item;
                    tape.step();
                    into[base + item] = tape.bounded(least[item], most[item]);
                }
            }
        }

        private static int placeOf(int sign, char[] letters) {
            for (int k = 0; k < letters.length; k++) {
                if (letters[k] == sign) {
                    return k;
                }
            }
            return NONE;
        }

        private boolean fitsTogether() {
            if (towers == 0 || rows > ruleItems[1] || longestRow > ruleItems[0]) {
                return false;
            }
            for (int tower = 0; tower < towers; tower++) {
                if (towerItems[tower * ITEMS] >= ruleItems[0]
                        || towerItems[tower * ITEMS + 1] >= ruleItems[1]) {
                    return false;
                }
            }
            return true;
        }

        /** Only behind a reading without a FAULT. */
        void lay(Scene scene) {
            scene.begin(ruleItems[0], ruleItems[1], towers);
            scene.coins = ruleItems[2];
            scene.fog = ruleItems[3];
            for (int row = 0; row < scene.rows; row++) {
                System.arraycopy(digits, row * MOST_WIDE, scene.ground, row * scene.wide, scene.wide);
            }
            for (int tower = 0; tower < towers; tower++) {
                int base = tower * ITEMS;
                scene.places[tower] = towerItems[base + 1] * scene.wide + towerItems[base];
                scene.masts[tower] = towerItems[base + 2];
                scene.lamps[tower] = towerItems[base + 3];
            }
        }
    }

    /** Reads the TAPE as a LAW and writes it with each sign behind what it joins. */
    private static final class LawReader {
        private static final int DEEPEST = 6;
        private static final int DIGITS = 4;

        private final Tape tape;
        private final int[] code = new int[Tape.MOST_BYTES];
        private int length = 0;

        LawReader(Tape tape) {
            this.tape = tape;
        }

        /** The FAULT of the TAPE as a LAW, or NONE. */
        int read() {
            tape.rewind();
            length = 0;
            boolean more = true;
            for (int k = 0; k <= Tape.MOST_BYTES && more; k++) {
                clause();
                more = tape.peek() == ';';
                if (more) {
                    tape.step();
                }
            }
            if (tape.peek() != NONE) {
                tape.fail();
            }
            return tape.bad;
        }

        /** Only behind a reading without a FAULT. */
        Law made() {
            return new Law(Arrays.copyOf(code, length));
        }

        private void put(int sign, int value) {
            if (length < code.length) {
                code[length] = value << Law.SIGN_BITS | sign;
                length++;
            }
        }

        private void clause() {
            tape.expect('y');
            tape.expect(':');
            int sign = tape.peek();
            boolean sumFirst = sign != '!' && sign != '(';
            if (sumFirst) {
                sum(0);
            }
            if (!sumFirst || compares(tape.peek())) {
                condition(0, sumFirst);
                tape.expect('?');
                put('?', 0);
                sum(0);
            }
            put(';', 0);
        }

        private static boolean compares(int sign) {
            return sign == '=' || sign == '<' || sign == '>';
        }

        /** begun: the SUM that it begins with has been read already. */
        private void condition(int depth, boolean begun) {
            truth(depth, begun);
            for (int k = 0; k < Tape.MOST_BYTES && tape.peek() == '|'; k++) {
                tape.step();
                truth(depth, false);
                put('|', 0);
            }
        }

        private void truth(int depth, boolean begun) {
            unit(depth, begun);
            for (int k = 0; k < Tape.MOST_BYTES && tape.peek() == '&'; k++) {
                tape.step();
                unit(depth, false);
                put('&', 0);
            }
        }

        private void unit(int depth, boolean begun) {
            int sign = begun ? NONE : tape.peek();
            if (sign == '!') {
                if (enter(depth)) {
                    unit(depth + 1, false);
                    put('!', 0);
                }
            } else if (sign == '(') {
                if (enter(depth)) {
                    condition(depth + 1, false);
                    tape.expect(')');
                }
            } else {
                if (!begun) {
                    sum(depth);
                }
                sign = tape.peek();
                if (compares(sign)) {
                    tape.step();
                    sum(depth);
                    put(sign, 0);
                } else {
                    tape.fail();
                }
            }
        }

        private boolean enter(int depth) {
            if (depth >= DEEPEST) {
                tape.fail();
                return false;
            }
            tape.step();
            return true;
        }

        private void sum(int depth) {
            term(depth);
            int sign = tape.peek();
            for (int k = 0; k < Tape.MOST_BYTES && (sign == '+' || sign == '-'); k++) {
                tape.step();
                term(depth);
                put(sign, 0);
                sign = tape.peek();
            }
        }

        private void term(int depth) {
            atom(depth);
            int sign = tape.peek();
            for (int k = 0; k < Tape.MOST_BYTES && (sign == '*' || sign == '/'); k++) {
                tape.step();
                atom(depth);
                put(sign, 0);
                sign = tape.peek();
            }
        }

        private void atom(int depth) {
            int sign = tape.peek();
            if (Tape.isDigit(sign)) {
                put(Law.NUMBER, tape.number(DIGITS));
            } else if (sign == '[') {
                if (enter(depth)) {
                    sum(depth + 1);
                    tape.expect(']');
                }
            } else if (Law.letterOf(sign) != NONE) {
                put(Law.LETTER, Law.letterOf(sign));
                tape.step();
            } else {
                tape.fail();
            }
        }
    }

    /** A LAW as signs behind what they join: a CONDITION ends with ?, a CLAUSE with ; . */
    private static final class Law {
        static final int SIGN_BITS = 8;
        private static final int SIGN_MASK = 255;
        static final int NUMBER = '#';
        static final int LETTER = '@';
        static final int LETTERS = 6;
        private static final int LARGEST = 1000000;
        /** Six of ( [ ! within one another never need more than some twenty. */
        private static final int STACK = 40;

        private final int[] code;
        private final int[] stack = new int[STACK];

        Law(int[] code) {
            this.code = code;
        }

        static int letterOf(int sign) {
            switch (sign) {
                case 'l':
                    return 0;
                case 'f':
                    return 1;
                case 'h':
                    return 2;
                case 'g':
                    return 3;
                case 'm':
                    return 4;
                case 'n':
                    return 5;
                default:
                    return NONE;
            }
        }

        int worth(int[] letters) {
            boolean skipping = false;
            int high = 0;
            for (int k = 0; k < code.length; k++) {
                int sign = code[k] & SIGN_MASK;
                int value = code[k] >> SIGN_BITS;
                if (skipping) {
                    skipping = sign != ';';
                } else if (sign == ';') {
                    return high > 0 ? stack[high - 1] : 0;
                } else if (sign == '?') {
                    skipping = high > 0 && stack[high - 1] == 0;
                    high = 0;
                } else if (sign == NUMBER || sign == LETTER) {
                    if (high < STACK && value >= 0 && (sign == NUMBER || value < letters.length)) {
                        stack[high] = sign == NUMBER ? value : letters[value];
                        high++;
                    }
                } else if (sign == '!') {
                    if (high > 0) {
                        stack[high - 1] = 1 - stack[high - 1];
                    }
                } else if (high > 1) {
                    stack[high - 2] = join(sign, stack[high - 2], stack[high - 1]);
                    high--;
                }
            }
            return 0;
        }

        private static int join(int sign, int left, int right) {
            switch (sign) {
                case '+':
                    return held((long) left + right);
                case '-':
                    return held((long) left - right);
                case '*':
                    return held((long) left * right);
                case '/':
                    return right == 0 ? 0 : left / right;
                case '=':
                    return left == right ? 1 : 0;
                case '<':
                    return left < right ? 1 : 0;
                case '>':
                    return left > right ? 1 : 0;
                case '&':
                    return left & right;
                default:
                    return left | right;
            }
        }

        private static int held(long value) {
            return value > LARGEST ? LARGEST : value < -LARGEST ? -LARGEST : (int) value;
        }
    }

    /** A LAND at one time, and what its TOWERS see then; no LAND: no CELLS and no TOWERS. */
    private static final class Scene {
        static final int MOST_CELLS = 30;
        static final int MOST_TOWERS = 4;
        static final int RECORD = MOST_CELLS + 2 * MOST_TOWERS + 5;
        private static final int SIDES = 4;

        int wide = 1;
        int rows = 0;
        int cells = 0;
        int towers = 0;
        int fog = 0;
        int coins = 0;
        int hour = 0;
        int broken = 0;
        /** How many HOURS were logged in all; it goes with the state so that UNDO shortens the LOG. */
        int logged = 0;
        final int[] ground = new int[MOST_CELLS];
        final int[] places = new int[MOST_TOWERS];
        final int[] masts = new int[MOST_TOWERS];
        final int[] lamps = new int[MOST_TOWERS];
        private final int[] letters = new int[Law.LETTERS];

        void begin(int wideNow, int rowsNow, int towersNow) {
            wide = wideNow;
            rows = rowsNow;
            cells = wideNow * rowsNow;
            towers = towersNow;
            hour = 0;
            broken = 0;
            logged = 0;
        }

        void become(Scene other) {
            begin(other.wide, other.rows, other.towers);
            fog = other.fog;
            coins = other.coins;
            hour = other.hour;
            broken = other.broken;
            logged = other.logged;
            System.arraycopy(other.ground, 0, ground, 0, MOST_CELLS);
            System.arraycopy(other.places, 0, places, 0, MOST_TOWERS);
            System.arraycopy(other.masts, 0, masts, 0, MOST_TOWERS);
            System.arraycopy(other.lamps, 0, lamps, 0, MOST_TOWERS);
        }

        /** What ACTS change, as RECORD numbers; the caller keeps room for them behind at. */
        void save(int[] shelf, int at) {
            System.arraycopy(ground, 0, shelf, at, MOST_CELLS);
            System.arraycopy(places, 0, shelf, at + MOST_CELLS, MOST_TOWERS);
            System.arraycopy(masts, 0, shelf, at + MOST_CELLS + MOST_TOWERS, MOST_TOWERS);
            int behind = at + MOST_CELLS + 2 * MOST_TOWERS;
            shelf[behind] = fog;
            shelf[behind + 1] = coins;
            shelf[behind + 2] = hour;
            shelf[behind + 3] = broken;
            shelf[behind + 4] = logged;
        }

        void load(int[] shelf, int at) {
            System.arraycopy(shelf, at, ground, 0, MOST_CELLS);
            System.arraycopy(shelf, at + MOST_CELLS, places, 0, MOST_TOWERS);
            System.arraycopy(shelf, at + MOST_CELLS + MOST_TOWERS, masts, 0, MOST_TOWERS);
            int behind = at + MOST_CELLS + 2 * MOST_TOWERS;
            fog = shelf[behind];
            coins = shelf[behind + 1];
            hour = shelf[behind + 2];
            broken = shelf[behind + 3];
            logged = shelf[behind + 4];
        }

        boolean hasCell(int cell) {
            return cell >= 0 && cell < cells;
        }

        boolean hasTower(int tower) {
            return tower >= 0 && tower < towers;
        }

        int allCells() {
            return (1 << cells) - 1;
        }

        int allTowers() {
            return (1 << towers) - 1;
        }

        /** The CELL beside on a side (rising in number), or NONE beyond the edge. */
        int beside(int cell, int side) {
            if (wide < 1) {
                return NONE;
            }
            int place = cell % wide;
            switch (side) {
                case 0:
                    return cell >= wide ? cell - wide : NONE;
                case 1:
                    return place > 0 ? cell - 1 : NONE;
                case 2:
                    return place < wide - 1 ? cell + 1 : NONE;
                default:
                    return cell + wide < cells ? cell + wide : NONE;
            }
        }

        int reach(int tower, Law law) {
            if (law == null) {
                return lamps[tower];
            }
            letters[0] = lamps[tower];
            letters[1] = fog;
            letters[2] = hour % 24;
            letters[3] = ground[places[tower]];
            letters[4] = masts[tower];
            letters[5] = towers;
            return within(law.worth(letters), 0, NINE);
        }

        private int eye(int tower) {
            return ground[places[tower]] + masts[tower];
        }

        boolean beholds(int tower, int cell, Law law) {
            return isClear(places[tower], eye(tower), reach(tower, law), cell);
        }

        int sight(int tower, Law law) {
            return sightFrom(places[tower], eye(tower), reach(tower, law));
        }

        int sightFrom(int from, int eye, int reach) {
            int seen = 0;
            for (int cell = 0; cell < cells; cell++) {
                if (isClear(from, eye, reach, cell)) {
                    seen |= 1 << cell;
                }
            }
            return seen;
        }

        private boolean isClear(int from, int eye, int reach, int cell) {
            int top = ground[cell];
            if (top < fog || wide < 1) {
                return false;
            }
            int x = from % wide;
            int y = from / wide;
            int across = cell % wide - x;
            int down = cell / wide - y;
            int far = Math.max(Math.abs(across), Math.abs(down));
            if (far > reach) {
                return false;
            }
            for (int i = 1; i < far; i++) {
                // Both sums lie between two places of the LAND, so they are never below 0
                // and cutting what is one half more is rounding.
                int placeOn = (2 * (x * far + i * across) + far) / (2 * far);
                int rowOn = (2 * (y * far + i * down) + far) / (2 * far);
                int on = rowOn * wide + placeOn;
                if (hasCell(on) && ground[on] * far > eye * far + i * (top - eye)) {
                    return false;
                }
            }
            return true;
        }

        int unionOfSights(int some, Law law) {
            int seen = 0;
            for (int tower = 0; tower < towers; tower++) {
                if ((some >> tower & 1) == 1) {
                    seen |= sight(tower, law);
                }
            }
            return seen;
        }

        int hidden(Law law) {
            int left = allCells();
            for (int tower = 0; tower < towers; tower++) {
                left &= ~sight(tower, law);
            }
            return left;
        }

        boolean isSeen(int cell, Law law) {
            for (int tower = 0; tower < towers; tower++) {
                if (beholds(tower, cell, law)) {
                    return true;
                }
            }
            return false;
        }

        /** CELLS (bits) that k TOWERS or more SEE: one, two, three, four hold those seen so often. */
        int seenBy(int k, Law law) {
            int one = 0;
            int two = 0;
            int three = 0;
            int four = 0;
            for (int tower = 0; tower < towers; tower++) {
                int seen = sight(tower, law);
                four |= three & seen;
                three |= two & seen;
                two |= one & seen;
                one |= seen;
            }
            return k == 1 ? one : k == 2 ? two : k == 3 ? three : four;
        }

        /** The highest CELL for sign 1, the lowest for -1. */
        int highest(int sign) {
            int best = 0;
            for (int cell = 1; cell < cells; cell++) {
                if (sign * ground[cell] > sign * ground[best]) {
                    best = cell;
                }
            }
            return best;
        }

        /** The TOWER that SEES most for sign 1, least for -1. */
        int sharpest(int sign, Law law) {
            int best = NONE;
            int bestSeen = 0;
            for (int tower = 0; tower < towers; tower++) {
                int seen = sign * Integer.bitCount(sight(tower, law));
                if (best == NONE || seen > bestSeen) {
                    best = tower;
                    bestSeen = seen;
                }
            }
            return best;
        }

        int flat() {
            int found = 0;
            for (int cell = 0; cell < cells; cell++) {
                if (hasLikeBeside(cell)) {
                    found++;
                }
            }
            return found;
        }

        private boolean hasLikeBeside(int cell) {
            for (int side = 0; side < SIDES; side++) {
                int next = beside(cell, side);
                if (hasCell(next) && ground[next] == ground[cell]) {
                    return true;
                }
            }
            return false;
        }

        int lost() {
            int found = 0;
            for (int cell = 0; cell < cells; cell++) {
                if (ground[cell] < fog) {
                    found |= 1 << cell;
                }
            }
            return found;
        }

        int mutual(Law law) {
            int pairs = 0;
            for (int one = 0; one < towers; one++) {
                for (int other = one + 1; other < towers; other++) {
                    if (beholds(one, places[other], law) && beholds(other, places[one], law)) {
                        pairs++;
                    }
                }
            }
            return pairs;
        }
    }

    /** The LOG, what UNDO needs, and the IMAGE. */
    private static final class Past {
        private static final int MOST_ACTS = 40;
        private static final int LOG_LENGTH = 60;
        /** More than LOG_LENGTH and MOST_ACTS, so that rows that left the LOG are there when ACTS are UNDONE. */
        private static final int ROWS = 128;

        private final int[] shelf = new int[MOST_ACTS * Scene.RECORD];
        private int next = 0;
        int kept = 0;
        private final int[] rows = new int[ROWS];
        private final int[] imageRows = new int[ROWS];
        private final int[] imageRecord = new int[Scene.RECORD];
        private boolean hasImage = false;

        void forget() {
            kept = 0;
            hasImage = false;
        }

        void keep(Scene scene) {
            scene.save(shelf, next * Scene.RECORD);
            next = (next + 1) % MOST_ACTS;
            kept = Math.min(MOST_ACTS, kept + 1);
        }

        int takeBack(Scene scene) {
            if (kept == 0) {
                return NONE;
            }
            next = (next + MOST_ACTS - 1) % MOST_ACTS;
            kept--;
            scene.load(shelf, next * Scene.RECORD);
            return kept;
        }

        void write(Scene scene, int hid) {
            rows[scene.logged % ROWS] = hid << 8 | scene.broken << 4 | scene.fog;
            scene.logged++;
        }

        static int logLength(Scene scene) {
            return Math.min(LOG_LENGTH, scene.logged);
        }

        int read(Scene scene, int i, int what) {
            if (i < 0 || i >= logLength(scene)) {
                return NONE;
            }
            int row = rows[(scene.logged - 1 - i) % ROWS];
            switch (what) {
                case 0:
                    return row >> 8;
                case 1:
                    return row >> 4 & 15;
                case 2:
                    return row & 15;
                default:
                    return NONE;
            }
        }

        void draw(Scene scene) {
            scene.save(imageRecord, 0);
            System.arraycopy(rows, 0, imageRows, 0, ROWS);
            hasImage = true;
        }

        boolean bringBack(Scene scene) {
            if (!hasImage) {
                return false;
            }
            scene.load(imageRecord, 0);
            System.arraycopy(imageRows, 0, rows, 0, ROWS);
            kept = 0;
            return true;
        }
    }

    /** What was GIVEN and HEARD. */
    private static final class Hearsay {
        private static final int MOST = 10;

        private final int[] givenTowers = new int[MOST];
        private final int[] givenCells = new int[MOST];
        private final boolean[] givenSeen = new boolean[MOST];
        int givenCount = 0;
        private final int[] heardTowers = new int[MOST];
        private final int[] heardCells = new int[MOST];
        int heardCount = 0;

        void forget() {
            givenCount = 0;
            heardCount = 0;
        }

        int addGiven(int tower, int cell, boolean seen) {
            if (givenCount >= MOST) {
                return NONE;
            }
            givenTowers[givenCount] = tower;
            givenCells[givenCount] = cell;
            givenSeen[givenCount] = seen;
            givenCount++;
            return givenCount;
        }

        int addHeard(int tower, int cells) {
            if (heardCount >= MOST) {
                return NONE;
            }
            heardTowers[heardCount] = tower;
            heardCells[heardCount] = cells;
            heardCount++;
            return heardCount;
        }

        /** HEIGHTS (bits) of a CELL that fit; the scene is as told and loses that HEIGHT. */
        int fitting(Scene scene, int cell, Law law) {
            int found = 0;
            for (int height = 0; height <= NINE; height++) {
                scene.ground[cell] = height;
                if (fits(scene, cell, law)) {
                    found |= 1 << height;
                }
            }
            return found;
        }

        private boolean fits(Scene scene, int cell, Law law) {
            for (int k = 0; k < givenCount; k++) {
                if (givenCells[k] == cell
                        && scene.beholds(givenTowers[k], cell, law) != givenSeen[k]) {
                    return false;
                }
            }
            return true;
        }

        static int apart(Scene scene, int tower, int cell, int heights, Law law) {
            int balance = 0;
            for (int height = 0; height <= NINE; height++) {
                if ((heights >> height & 1) == 1) {
                    scene.ground[cell] = height;
                    balance += scene.beholds(tower, cell, law) ? 1 : -1;
                }
            }
            return Math.abs(balance);
        }

        int falseTowers(Scene scene, Law law) {
            int found = 0;
            for (int k = 0; k < heardCount; k++) {
                int tower = heardTowers[k];
                if (heardCells[k] != (scene.allCells() & ~scene.sight(tower, law))) {
                    found |= 1 << tower;
                }
            }
            return found;
        }
    }

    /** The least toll from each CELL to one goal, the tolls of both ends included. */
    private static final class Paths {
        static final int FAR = 1000;
        private static final int SIDES = 4;

        private final int[] tolls = new int[Scene.MOST_CELLS];

        void measure(Scene scene, int goal, int hidden, int hiddenToll, int openToll) {
            Arrays.fill(tolls, FAR);
            tolls[goal] = (hidden >> goal & 1) == 1 ? hiddenToll : openToll;
            boolean changed = true;
            for (int round = 0; round < scene.cells && changed; round++) {
                changed = false;
                for (int cell = 0; cell < scene.cells; cell++) {
                    int own = (hidden >> cell & 1) == 1 ? hiddenToll : openToll;
                    int toll = own + leastBeside(scene, cell);
                    if (toll < tolls[cell]) {
                        tolls[cell] = toll;
                        changed = true;
                    }
                }
            }
        }

        private int leastBeside(Scene scene, int cell) {
            int least = FAR;
            for (int side = 0; side < SIDES; side++) {
                int next = scene.beside(cell, side);
                if (scene.hasCell(next)) {
                    least = Math.min(least, tolls[next]);
                }
            }
            return least;
        }

        int toll(int from) {
            return tolls[from];
        }

        /** Where each CELL of the way costs 1: a step less than CELLS. */
        int steps(int from) {
            return tolls[from] < FAR ? tolls[from] - 1 : NONE;
        }

        int firstStep(Scene scene, int from) {
            if (tolls[from] >= FAR) {
                return NONE;
            }
            for (int side = 0; side < SIDES; side++) {
                int next = scene.beside(from, side);
                if (scene.hasCell(next) && tolls[next] == tolls[from] - 1) {
                    return next;
                }
            }
            return NONE;
        }
    }

    /** GAME and RESTS: what two TOWERS see by how much each raises its MAST. */
    private static final class Duel {
        private static final int MOST_RAISE = 3;

        private final int[] ofOne = new int[MOST_RAISE + 1];
        private final int[] ofOther = new int[MOST_RAISE + 1];

        static boolean mayRaise(int by) {
            return by >= 0 && by <= MOST_RAISE;
        }

        /** The scene loses its MASTS; no MAST changes what another TOWER sees. */
        void prepare(Scene scene, int one, int other, Law law) {
            int mastOfOne = scene.masts[one];
            int mastOfOther = scene.masts[other];
            for (int by = 0; by <= MOST_RAISE; by++) {
                scene.masts[one] = Math.min(NINE, mastOfOne + by);
                scene.masts[other] = Math.min(NINE, mastOfOther + by);
                ofOne[by] = scene.sight(one, law);
                ofOther[by] = scene.sight(other, law);
            }
        }

        int gainOfOne(int x, int y) {
            return Integer.bitCount(ofOne[x] & ~ofOther[y]) - x;
        }

        int gainOfOther(int x, int y) {
            return Integer.bitCount(ofOther[y] & ~ofOne[x]) - y;
        }

        /** The i-th rest, or how many there are for NONE. */
        int restAt(int i) {
            int found = 0;
            for (int x = 0; x <= MOST_RAISE; x++) {
                for (int y = 0; y <= MOST_RAISE; y++) {
                    if (isRest(x, y)) {
                        if (found == i) {
                            return 10 * x + y;
                        }
                        found++;
                    }
                }
            }
            return i == NONE ? found : NONE;
        }

        private boolean isRest(int x, int y) {
            for (int by = 0; by <= MOST_RAISE; by++) {
                if (gainOfOne(by, y) > gainOfOne(x, y) || gainOfOther(x, by) > gainOfOther(x, y)) {
                    return false;
                }
            }
            return true;
        }
    }
}
