import java.math.BigInteger;

/** The edges of ACTS, STATUS, UNDO, the LOG, YEARS, IMAGES and counts: promises 10 to 22 and 39 to 41. */
public final class EdgeActTest {
    private static final int NONE = Edges.NONE;
    private static final int NO_STATUS = Edges.NO_STATUS;
    private static final Edges edges = new Edges("EdgeActTest");

    public static void main(String[] args) {
        hoursOneToSixty();
        lastHour();
        hourByHour();
        logKeepsSixty();
        heaped();
        dug();
        masts();
        moved();
        fogs();
        oaths();
        coinsGiven();
        ofSeveralTheFirst();
        mist();
        yearsOneToSixty();
        yearsHoldHeights();
        yearsBelowMist();
        yearsGoRound();
        statuses();
        statusNotUndone();
        latestForty();
        eachActUndone();
        logUndone();
        logsAsked();
        images();
        imageOfThisLand();
        counts();
        lastOf512Calls();
        edges.meets(10, 22);
        edges.meets(39, 41);
        edges.end();
    }

    private static BlindSpots land(String text) {
        return Texts.land(text);
    }

    private static BlindSpots withCoins(String rest, int coins) {
        BlindSpots x = land("sw2h2k" + Math.min(99, coins) + rest);
        for (int left = coins - 99; left > 0; left -= 50) {
            x.give(Math.min(50, left));
        }
        return x;
    }

    // ---- promise 10 ----

    private static void hoursOneToSixty() {
        edges.due(10, "1 .. 60: one", land("t").hours(1), 1);
        edges.due(10, "1 .. 60: sixty", land("t").hours(60), 60);
        edges.refusedEach(10, "out of bounds (1)", () -> land("sw2h2f3;t"), (x, n) -> x.hours(n), Edges.outside(1, 60),
                NONE, 1);
        edges.refusedEach(10, "no LAND (STATUS 0)", BlindSpots::new, (x, n) -> x.hours(n), new int[] {1, 60, 0, 61}, NONE,
                0);
    }

    /** The HOUR 9960 of a small LAND. */
    private static BlindSpots late() {
        BlindSpots x = land("sw2h2;t");
        for (int k = 0; k < 166; k++) {
            x.hours(60);
        }
        return x;
    }

    private static BlindSpots latest() {
        BlindSpots x = late();
        x.hours(39);
        return x;
    }

    private static void lastHour() {
        edges.due(10, "the HOUR 9,999 at most", late().hours(39), 9999);
        edges.refused(10, "beyond 9,999 (4)", EdgeActTest::late, x -> x.hours(40), NONE, 4);
        edges.refused(10, "beyond 9,999 (4)", EdgeActTest::late, x -> x.hours(60), NONE, 4);
        edges.refused(10, "beyond 9,999 (4), the last HOUR", EdgeActTest::latest, x -> x.hours(1), NONE, 4);
        edges.refusedEach(10, "out of bounds (1), the last HOUR", EdgeActTest::latest, (x, n) -> x.hours(n),
                Edges.outside(1, 60), NONE, 1);
        edges.due(19, "the HOUR 9,999 at most", late().years(39, 1), 9999);
        edges.refused(19, "beyond 9,999", EdgeActTest::late, x -> x.years(40, 1), NONE, NO_STATUS);
        edges.refused(19, "beyond 9,999, the last HOUR", EdgeActTest::latest, x -> x.years(1, 1), NONE, NO_STATUS);
        BlindSpots x = latest();
        x.undo();
        edges.due(10, "the last HOUR once more", x.hours(1), 9999);
    }

    private static void hourByHour() {
        int[][] fogs = {{0, 0}, {1, 0}, {2, 1}, {9, 8}};
        for (int[] row : fogs) {
            BlindSpots x = land("sf" + row[0] + ";t");
            x.hours(1);
            edges.due(10, "FOG is one less, if there is any: " + row[0], x.rule(3), row[1]);
            edges.due(10, "the LOG has FOG ahead of that: " + row[0], x.log(0, 2), row[0]);
        }
        int[][] coins = {{0, 1}, {997, 998}, {998, 999}, {999, 999}};
        for (int[] row : coins) {
            BlindSpots x = withCoins(";t", row[0]);
            x.hours(1);
            edges.due(10, "COINS one more, 999 at most: " + row[0], x.rule(2), row[1]);
        }
        BlindSpots x = withCoins(";t", 990);
        x.hours(60);
        edges.due(10, "COINS 999 at most, sixty HOURS", x.rule(2), 999);
        BlindSpots lawful = land("sw4h2;r;r;tl0");
        Texts.law(lawful, "y:h");
        lawful.hours(2);
        edges.due(10, "the LOG is made, then the HOUR goes on", lawful.log(1, 0), 7);
        edges.due(10, "the LOG is made, then the HOUR goes on", lawful.log(0, 0), 4);
    }

    private static void logKeepsSixty() {
        BlindSpots x = land("sf9;t");
        x.hours(59);
        edges.due(22, "the latest 60: 59", x.count(9), 59);
        edges.due(22, "the latest 60: the first of 59", x.log(58, 2), 9);
        edges.due(22, "no such ones: 59 of 59", x.log(59, 2), NONE);
        x.hours(1);
        edges.due(22, "the latest 60: 60", x.count(9), 60);
        edges.due(22, "the latest 60: the first of 60", x.log(59, 2), 9);
        edges.due(22, "no such ones: 60 of 60", x.log(60, 2), NONE);
        x.hours(1);
        edges.due(22, "the latest 60: 61", x.count(9), 60);
        edges.due(22, "the latest 60: the second of 61", x.log(59, 2), 8);
        edges.due(22, "no such ones: 60 of 61", x.log(60, 2), NONE);
        x.hours(60);
        x.hours(60);
        edges.due(22, "the latest 60: 181", x.log(59, 2), 0);
        edges.due(22, "no such ones: 60 of 181", x.log(60, 2), NONE);
    }

    // ---- promises 11 to 17 ----

    private static void heaped() {
        BlindSpots x = land("sw2h2k3;r80;r08;t");
        edges.due(11, "HEIGHT 8, the first CELL", x.heap(0), 9);
        edges.due(11, "HEIGHT 8, the last CELL", x.heap(3), 9);
        edges.due(11, "HEIGHT 0, the last COIN", x.heap(1), 1);
        edges.due(11, "HEIGHT then", x.height(1), 1);
        edges.due(11, "a COIN each", x.rule(2), 0);
        edges.refusedEach(11, "no such CELL (STATUS 0)", () -> land("sw2h2k3;t"), (y, cell) -> y.heap(cell),
                Edges.outside(0, 3), NONE, 0);
        edges.refused(11, "no LAND (STATUS 0)", BlindSpots::new, y -> y.heap(0), NONE, 0);
        edges.refused(11, "nine (2)", () -> land("sw2h2k3;r9;t"), y -> y.heap(0), NONE, 2);
        edges.refused(11, "too few COINS (3)", () -> land("sw2h2k0;r8;t"), y -> y.heap(0), NONE, 3);
    }

    private static void dug() {
        BlindSpots x = land("sw2h2k3;r10;r91;t");
        edges.due(12, "HEIGHT 1, the first CELL", x.dig(0), 0);
        edges.due(12, "HEIGHT 1, the last CELL", x.dig(3), 0);
        edges.due(12, "HEIGHT 9, the last COIN", x.dig(2), 8);
        edges.due(12, "HEIGHT then", x.height(2), 8);
        edges.due(12, "a COIN each", x.rule(2), 0);
        edges.refusedEach(12, "no such CELL (STATUS 0)", () -> land("sw2h2k3;r11;r11;t"), (y, cell) -> y.dig(cell),
                Edges.outside(0, 3), NONE, 0);
        edges.refused(12, "no LAND (STATUS 0)", BlindSpots::new, y -> y.dig(0), NONE, 0);
        edges.refused(12, "none (2)", () -> land("sw2h2k3;r0;t"), y -> y.dig(0), NONE, 2);
        edges.refused(12, "too few COINS (3)", () -> land("sw2h2k0;r1;t"), y -> y.dig(0), NONE, 3);
    }

    private static void masts() {
        BlindSpots x = land("sw2h2k4;tm8;tm0");
        edges.due(13, "MAST 8", x.mast(0), 9);
        edges.due(13, "2 COINS", x.rule(2), 2);
        edges.due(13, "MAST 0, the last two COINS", x.mast(1), 1);
        edges.due(13, "2 COINS", x.rule(2), 0);
        edges.due(13, "how high then", Edges.tower(x, 1, 1), 1);
        edges.refusedEach(13, "no such TOWER (STATUS 0)", () -> land("sw2h2;t;t"), (y, tower) -> y.mast(tower),
                Edges.outside(0, 1), NONE, 0);
        edges.refused(13, "no such TOWER (STATUS 0), a fifth", () -> land("sw2h2;t;t;t;t"), y -> y.mast(4), NONE, 0);
        edges.refused(13, "no LAND (STATUS 0)", BlindSpots::new, y -> y.mast(0), NONE, 0);
        edges.refused(13, "nine (2)", () -> land("sw2h2;tm9"), y -> y.mast(0), NONE, 2);
        edges.refused(13, "too few COINS (3), one", () -> land("sw2h2k1;tm8"), y -> y.mast(0), NONE, 3);
        edges.refused(13, "too few COINS (3), none", () -> land("sw2h2k0;tm8"), y -> y.mast(0), NONE, 3);
    }

    private static void moved() {
        BlindSpots x = land("sw2h2k6;tm7;tx1");
        edges.due(14, "to the last CELL: the CELL that was", x.moves(0, 3), 0);
        edges.due(14, "3 COINS", x.rule(2), 3);
        edges.due(14, "MAST stays", Edges.tower(x, 0, 1), 7);
        edges.due(14, "to the first CELL, the last three COINS: the CELL that was", x.moves(1, 0), 1);
        edges.due(14, "3 COINS", x.rule(2), 0);
        edges.due(14, "where it is", Edges.tower(x, 1, 0), 0);
        edges.due(14, "to where another one is", land("sw2h2;t;tx1").moves(0, 1), 0);
        edges.refusedEach(14, "no such TOWER (STATUS 0)", () -> land("sw2h2;t;t"), (y, tower) -> y.moves(tower, 1),
                Edges.outside(0, 1), NONE, 0);
        edges.refused(14, "no LAND (STATUS 0)", BlindSpots::new, y -> y.moves(0, 0), NONE, 0);
        edges.refusedEach(14, "no such CELL (1)", () -> land("sw2h2;t;t"), (y, cell) -> y.moves(1, cell),
                Edges.outside(0, 3), NONE, 1);
        edges.refused(14, "it is so (2)", () -> land("sw2h2;t;tx1"), y -> y.moves(1, 1), NONE, 2);
        edges.refused(14, "too few COINS (3), two", () -> land("sw2h2k2;t"), y -> y.moves(0, 1), NONE, 3);
        edges.refused(14, "too few COINS (3), none", () -> land("sw2h2k0;t"), y -> y.moves(0, 1), NONE, 3);
    }

    private static void fogs() {
        BlindSpots x = land("sw2h2k0f1;t");
        edges.due(15, "0 .. 9: none; how it was", x.fog(0), 1);
        edges.due(15, "FOG", x.rule(3), 0);
        edges.due(15, "0 .. 9: nine; how it was", x.fog(9), 0);
        edges.due(15, "FOG", x.rule(3), 9);
        edges.due(15, "for nothing", x.rule(2), 0);
        edges.refusedEach(15, "out of bounds (1)", () -> land("sw2h2f4;t"), (y, v) -> y.fog(v), Edges.outside(0, 9), NONE,
                1);
        edges.refused(15, "it is so (2)", () -> land("sw2h2f9;t"), y -> y.fog(9), NONE, 2);
        edges.refused(15, "it is so (2), none", () -> land("sw2h2;t"), y -> y.fog(0), NONE, 2);
        edges.refusedEach(15, "no LAND (STATUS 0)", BlindSpots::new, (y, v) -> y.fog(v), new int[] {1, 0, 9, 10, -1},
                NONE, 0);
    }

    private static void oaths() {
        BlindSpots x = land("sw2h2k0;t;t;t;t");
        edges.due(16, "the first TOWER: BROKEN", x.oath(0), 1);
        edges.due(16, "the last TOWER: BROKEN", x.oath(3), 1);
        edges.due(16, "of which TOWERS", x.most(4), 9);
        edges.due(16, "kept again", x.oath(0), 0);
        edges.due(16, "of which TOWERS", x.most(4), 8);
        edges.due(16, "for nothing", x.rule(2), 0);
        edges.due(16, "BROKEN once more", x.oath(0), 1);
        edges.refusedEach(16, "no such TOWER (STATUS 0)", () -> land("sw2h2;t;t"), (y, tower) -> y.oath(tower),
                Edges.outside(0, 1), NONE, 0);
        edges.refusedEach(16, "no such TOWER (STATUS 0), four", () -> land("sw2h2;t;t;t;t"), (y, tower) -> y.oath(tower),
                Edges.outside(0, 3), NONE, 0);
        edges.refused(16, "no LAND (STATUS 0)", BlindSpots::new, y -> y.oath(0), NONE, 0);
    }

    private static void coinsGiven() {
        edges.due(17, "1 .. 50: one", withCoins(";t", 0).give(1), 1);
        edges.due(17, "1 .. 50: fifty", withCoins(";t", 0).give(50), 50);
        edges.due(17, "999 at most: by one", withCoins(";t", 998).give(1), 999);
        edges.due(17, "999 at most: by fifty", withCoins(";t", 949).give(50), 999);
        edges.refusedEach(17, "out of bounds (1)", () -> land("sw2h2;t"), (x, n) -> x.give(n), Edges.outside(1, 50), NONE,
                1);
        edges.refused(17, "above 999 (1): by one", () -> withCoins(";t", 999), x -> x.give(1), NONE, 1);
        edges.refused(17, "above 999 (1): by fifty", () -> withCoins(";t", 950), x -> x.give(50), NONE, 1);
        edges.refusedEach(17, "no LAND (STATUS 0)", BlindSpots::new, (x, n) -> x.give(n), new int[] {1, 50, 0, 51}, NONE,
                0);
    }

    private static void ofSeveralTheFirst() {
        edges.refused(20, "nine ahead of too few COINS", () -> land("sw2h2k0;r9;t"), x -> x.heap(0), NONE, 2);
        edges.refused(20, "none ahead of too few COINS", () -> land("sw2h2k0;t"), x -> x.dig(0), NONE, 2);
        edges.refused(20, "no CELL ahead of too few COINS", () -> land("sw2h2k0;t"), x -> x.heap(4), NONE, 0);
        edges.refused(20, "no CELL ahead of too few COINS", () -> land("sw2h2k0;t"), x -> x.dig(4), NONE, 0);
        edges.refused(20, "nine ahead of too few COINS, a MAST", () -> land("sw2h2k0;tm9"), x -> x.mast(0), NONE, 2);
        edges.refused(20, "no TOWER ahead of too few COINS, a MAST", () -> land("sw2h2k0;t"), x -> x.mast(1), NONE, 0);
        edges.refused(20, "no TOWER ahead of no CELL", () -> land("sw2h2;t"), x -> x.moves(1, 4), NONE, 0);
        edges.refused(20, "no TOWER ahead of too few COINS", () -> land("sw2h2k0;t"), x -> x.moves(1, 1), NONE, 0);
        edges.refused(20, "no CELL ahead of too few COINS", () -> land("sw2h2k0;t"), x -> x.moves(0, 4), NONE, 1);
        edges.refused(20, "it is so ahead of too few COINS", () -> land("sw2h2k0;t"), x -> x.moves(0, 0), NONE, 2);
        edges.refused(20, "no LAND ahead of no CELL", BlindSpots::new, x -> x.moves(0, -1), NONE, 0);
        edges.refused(20, "out of bounds ahead of beyond the last HOUR", EdgeActTest::late, x -> x.hours(61), NONE, 1);
        edges.refused(20, "out of bounds and above 999 is one", () -> withCoins(";t", 999), x -> x.give(51), NONE, 1);
    }

    // ---- promises 18 and 19 ----

    private static void mist() {
        BlindSpots x = new BlindSpots();
        edges.due(18, "3 at first", x.count(6), 3);
        edges.yes(18, "0 .. 9: none", x.mist(0));
        edges.due(18, "MIST", x.count(6), 0);
        edges.yes(18, "0 .. 9: nine", x.mist(9));
        edges.due(18, "MIST", x.count(6), 9);
        edges.yes(18, "3 once more", x.mist(3));
        edges.refusedEach(18, "out of bounds", () -> land("sw2h2;t"), (y, v) -> Edges.of(y.mist(v)), Edges.outside(0, 9),
                0, NO_STATUS);
        edges.refused(18, "it is so, at first", BlindSpots::new, y -> Edges.of(y.mist(3)), 0, NO_STATUS);
        for (int v : new int[] {0, 9}) {
            edges.refused(18, "it is so, " + v, () -> {
                BlindSpots y = land("sw2h2;t");
                y.mist(v);
                return y;
            }, y -> Edges.of(y.mist(v)), 0, NO_STATUS);
        }
    }

    private static void yearsOneToSixty() {
        edges.due(19, "1 .. 60: one", land("t").years(1, 0), 1);
        edges.due(19, "1 .. 60: sixty", land("t").years(60, 0), 60);
        edges.refusedEach(19, "out of bounds", () -> land("sw2h2;r12;t"), (x, n) -> x.years(n, 1), Edges.outside(1, 60),
                NONE, NO_STATUS);
        edges.refusedEach(19, "no LAND", BlindSpots::new, (x, n) -> x.years(n, 1), new int[] {1, 60, 0, 61}, NONE,
                NO_STATUS);
    }

    /** x of the Terms in numbers without bounds, so that nothing goes round but by the modulo. */
    private static final class Draws {
        private static final BigInteger ROUND = BigInteger.ONE.shiftLeft(64);
        private BigInteger x;

        Draws(long seed) {
            x = BigInteger.valueOf(seed).mod(ROUND);
        }

        int of(int j) {
            x = x.multiply(new BigInteger("6364136223846793005")).add(new BigInteger("1442695040888963407")).mod(ROUND);
            return x.shiftRight(33).mod(BigInteger.valueOf(j)).intValue();
        }
    }

    /** The draws of an HOUR: the CELL of four, the change, the draw of 10. */
    private static int[] draws(long seed) {
        Draws draws = new Draws(seed);
        return new int[] {draws.of(4), draws.of(3) - 1, draws.of(10)};
    }

    private static long seedWith(int what, int value) {
        for (long seed = 0; seed < 10000; seed++) {
            if (draws(seed)[what] == value) {
                return seed;
            }
        }
        throw new IllegalStateException("no seed draws " + value);
    }

    private static void yearsHoldHeights() {
        int[][] rows = {{-1, 0, 0}, {-1, 1, 0}, {-1, 9, 8}, {0, 0, 0}, {0, 9, 9}, {1, 0, 1}, {1, 8, 9}, {1, 9, 9}};
        for (int[] row : rows) {
            long seed = seedWith(1, row[0]);
            String told = "" + row[1] + row[1];
            BlindSpots x = land("sw2h2;r" + told + ";r" + told + ";t");
            x.years(1, seed);
            for (int cell = 0; cell < 4; cell++) {
                edges.due(19, "HEIGHT held within 0 .. 9: " + row[1] + " and " + row[0] + ", CELL " + cell,
                        x.height(cell), cell == draws(seed)[0] ? row[2] : row[1]);
            }
        }
    }

    private static int fogOfYear(int fog, int mist, long seed) {
        BlindSpots x = land("sw2h2f" + fog + ";t");
        x.mist(mist);
        x.years(1, seed);
        edges.due(19, "then an HOUR as by hand, FOG one less", x.rule(3), Math.max(0, x.log(0, 2) - 1));
        return x.log(0, 2);
    }

    private static void yearsBelowMist() {
        for (int drawn = 0; drawn <= 9; drawn++) {
            long seed = seedWith(2, drawn);
            for (int mist = 0; mist <= 9; mist++) {
                edges.due(19, "below MIST: " + drawn + " of MIST " + mist, fogOfYear(0, mist, seed), drawn < mist ? 2 : 0);
            }
        }
        int[][] fogs = {{0, 2}, {1, 3}, {6, 8}, {7, 9}, {8, 9}, {9, 9}};
        for (int[] row : fogs) {
            edges.due(19, "FOG is 2 more (9 at most): " + row[0], fogOfYear(row[0], 9, seedWith(2, 0)), row[1]);
            edges.due(19, "FOG stays: " + row[0], fogOfYear(row[0], 9, seedWith(2, 9)), row[0]);
        }
        BlindSpots x = land("sw2h2;t");
        long seed = seedWith(2, 2);
        x.years(1, seed);
        edges.due(19, "3 at first: 2 is below it", x.log(0, 2), 2);
        x = land("sw2h2;t");
        x.years(1, seedWith(2, 3));
        edges.due(19, "3 at first: 3 is not", x.log(0, 2), 0);
    }

    private static void yearsGoRound() {
        long[] seeds = {0, 1, -1, Long.MAX_VALUE, Long.MIN_VALUE, Long.MAX_VALUE - 1, 1L << 33, -1L << 33,
            1442695040888963407L};
        for (long seed : seeds) {
            BlindSpots x = land("sw6h5f3;r555555;r555555;r555555;r555555;r555555;t");
            x.years(20, seed);
            Draws draws = new Draws(seed);
            int[] ground = new int[30];
            java.util.Arrays.fill(ground, 5);
            int fog = 3;
            for (int k = 0; k < 20; k++) {
                int cell = draws.of(30);
                ground[cell] = Math.max(0, Math.min(9, ground[cell] + draws.of(3) - 1));
                fog = draws.of(10) < 3 ? Math.min(9, fog + 2) : fog;
                edges.due(19, "64 bits, going round, seed " + seed + ", FOG " + k, x.log(19 - k, 2), fog);
                fog = Math.max(0, fog - 1);
            }
            for (int cell = 0; cell < 30; cell++) {
                edges.due(19, "64 bits, going round, seed " + seed + ", CELL " + cell, x.height(cell), ground[cell]);
            }
        }
        BlindSpots once = land("sw2h2;r55;r55;t");
        long seed = seedWith(1, 1);
        once.years(1, seed);
        once.years(1, seed);
        edges.due(19, "x, at first the seed: each time", once.height(draws(seed)[0]), 7);
        edges.due(19, "each HOUR with what is ahead of it is one ACT", once.count(10), 2);
        once.undo();
        edges.due(19, "each HOUR with what is ahead of it is one ACT", once.height(draws(seed)[0]), 6);
        edges.due(19, "each HOUR with what is ahead of it is one ACT", once.count(5), 1);
        edges.due(19, "each HOUR with what is ahead of it is one ACT", once.count(9), 1);
    }

    // ---- promises 20 to 22 ----

    private static BlindSpots refusedAll() {
        BlindSpots x = latest();
        x.heap(4);
        for (int k = 0; k < 2; k++) {
            x.fog(10);
        }
        for (int k = 0; k < 3; k++) {
            x.fog(0);
        }
        for (int k = 0; k < 5; k++) {
            x.hours(1);
        }
        return x;
    }

    private static void statuses() {
        int[] due = {1, 2, 3, 0, 5};
        BlindSpots x = refusedAll();
        for (int what = 0; what < 5; what++) {
            edges.due(20, "each by itself: status(" + what + ")", x.status(what), due[what]);
        }
        BlindSpots poor = land("sw2h2k0;t");
        poor.heap(0);
        poor.mast(0);
        poor.moves(0, 1);
        edges.due(20, "too few COINS (3)", poor.status(3), 3);
        edges.refusedEach(20, "no such what", () -> land("sw2h2;t"), (y, what) -> y.status(what), Edges.outside(0, 4),
                NONE, NO_STATUS);
        edges.refused(20, "asking changes nothing", () -> land("sw2h2;t"), y -> y.status(0), 0, NO_STATUS);
    }

    private static void statusNotUndone() {
        BlindSpots x = land("sw2h2k1;t");
        x.image();
        x.heap(0);
        x.heap(0);
        x.undo();
        edges.due(20, "not UNDONE", x.status(3), 1);
        x.back();
        edges.due(20, "BACK leaves it", x.status(3), 1);
        x.undo();
        x.back();
        x.years(0, 1);
        x.mist(10);
        x.law(5);
        edges.due(20, "what is no ACT has none", x.status(0) + x.status(1) + x.status(2) + x.status(4), 0);
        Texts.feed(x, "t");
        x.text(0);
        edges.due(20, "another LAND leaves it", x.status(3), 1);
    }

    private static void latestForty() {
        for (int acts = 39; acts <= 41; acts++) {
            BlindSpots x = land("sw2h2k0;t");
            for (int k = 0; k < acts; k++) {
                x.give(1);
            }
            int can = Math.min(40, acts);
            edges.due(21, "the latest 40 of " + acts, x.count(10), can);
            for (int left = can - 1; left >= 0; left--) {
                edges.due(21, "how many still can be, of " + acts, x.undo(), left);
            }
            edges.due(21, "what is ahead of them stays done, of " + acts, x.rule(2), acts - can);
            edges.due(21, "NONE: none, of " + acts, x.undo(), NONE);
            edges.due(21, "NONE: none, of " + acts, x.rule(2), acts - can);
        }
        BlindSpots x = land("sw2h2;t");
        x.hours(60);
        edges.due(21, "each HOUR, the latest 40", x.count(10), 40);
        for (int k = 0; k < 40; k++) {
            x.undo();
        }
        edges.due(21, "each HOUR, the latest 40", x.count(5), 20);
        edges.due(21, "each HOUR, the latest 40", x.undo(), NONE);
        edges.refused(21, "NONE: none, a new LAND", () -> land("sw2h2;t"), y -> y.undo(), NONE, NO_STATUS);
        edges.refused(21, "NONE: none, no LAND", BlindSpots::new, y -> y.undo(), NONE, NO_STATUS);
        BlindSpots again = land("sw2h2k0;t");
        for (int k = 0; k < 45; k++) {
            again.give(1);
        }
        again.undo();
        again.give(7);
        edges.due(21, "one UNDONE, one more", again.count(10), 40);
        edges.due(21, "one UNDONE, one more", again.undo(), 39);
        edges.due(21, "one UNDONE, one more", again.rule(2), 44);
        again.undo();
        edges.due(21, "one UNDONE, one more", again.rule(2), 43);
    }

    private static void eachActUndone() {
        Edges.Call[] acts = {x -> x.hours(1), x -> x.heap(0), x -> x.dig(3), x -> x.mast(1), x -> x.moves(1, 2),
            x -> x.fog(3), x -> x.oath(1), x -> x.give(50), x -> x.years(1, 9)};
        for (int k = 0; k < acts.length; k++) {
            Edges.Call act = acts[k];
            edges.refused(21, "UNDONE it is as it was, act " + k, () -> land("sw2h2f1;r12;r34;t;tx1"), x -> {
                long answer = act.on(x);
                return answer == NONE ? NONE : x.undo();
            }, 0, NO_STATUS);
        }
    }

    private static void logUndone() {
        BlindSpots x = land("sf9;t");
        x.hours(60);
        x.hours(40);
        edges.due(21, "LOG, too: ahead of UNDO", x.log(59, 2), 0);
        for (int k = 0; k < 39; k++) {
            x.undo();
        }
        edges.due(21, "LOG, too: 61 HOURS are left", x.log(59, 2), 8);
        x.undo();
        edges.due(21, "LOG, too: 60 HOURS are left", x.log(59, 2), 9);
        edges.due(21, "LOG, too: how long it is", x.count(9), 60);
        BlindSpots y = land("sf9;t");
        y.hours(1);
        y.oath(0);
        y.hours(1);
        y.undo();
        edges.due(21, "LOG, too: how long it is", y.count(9), 1);
        edges.due(21, "LOG, too: the latest", y.log(0, 2), 9);
        y.undo();
        y.hours(1);
        edges.due(21, "LOG, too: another HOUR instead", y.log(0, 1), 0);
        edges.due(21, "LOG, too: another HOUR instead", y.log(1, 2), 9);
        y.undo();
        y.undo();
        edges.due(21, "LOG, too: none is left", y.count(9), 0);
        edges.due(21, "LOG, too: none is left", y.log(0, 0), NONE);
    }

    private static BlindSpots twoHours() {
        BlindSpots x = land("sw2h2f2;r2;t;t");
        x.oath(1);
        x.hours(2);
        return x;
    }

    private static void logsAsked() {
        BlindSpots x = twoHours();
        int[][] due = {{3, 2, 1}, {3, 2, 2}};
        for (int i = 0; i < 2; i++) {
            for (int what = 0; what <= 2; what++) {
                edges.due(22, "the latest, the one ahead of it: log(" + i + ", " + what + ")", x.log(i, what), due[i][what]);
            }
        }
        edges.refusedEach(22, "no such ones: i", EdgeActTest::twoHours, (y, i) -> y.log(i, 0), Edges.outside(0, 1), NONE,
                NO_STATUS);
        edges.refusedEach(22, "no such ones: what", EdgeActTest::twoHours, (y, what) -> y.log(0, what),
                Edges.outside(0, 2), NONE, NO_STATUS);
        edges.due(22, "no such ones: HOUR 0", land("t").log(0, 0), NONE);
        edges.due(22, "no such ones: no LAND", new BlindSpots().log(0, 0), NONE);
        BlindSpots most = land("sw6h5f9;t;t;t;t");
        for (int tower = 0; tower < 4; tower++) {
            most.oath(tower);
        }
        most.hours(1);
        edges.due(22, "all CELLS are HID", most.log(0, 0), 30);
        edges.due(22, "all oaths are BROKEN", most.log(0, 1), 15);
        edges.due(22, "FOG 9", most.log(0, 2), 9);
        BlindSpots none = land("sw6h5;t");
        none.hours(1);
        for (int what = 0; what <= 2; what++) {
            edges.due(22, "none of it, " + what, none.log(0, what), 0);
        }
    }

    // ---- promises 39 to 41 ----

    private static BlindSpots imaged() {
        BlindSpots x = land("sw2h2f2;r12;r34;t;tx1");
        x.hours(2);
        x.oath(1);
        x.image();
        return x;
    }

    private static void images() {
        edges.due(39, "the HOUR 0", land("t").image(), 0);
        edges.due(39, "the HOUR 9,999", latest().image(), 9999);
        edges.refused(39, "NONE: no LAND", BlindSpots::new, x -> x.image(), NONE, NO_STATUS);
        edges.refused(40, "NONE: no IMAGE", () -> twoHours(), x -> x.back(), NONE, NO_STATUS);
        edges.refused(40, "NONE: no LAND", BlindSpots::new, x -> x.back(), NONE, NO_STATUS);
        BlindSpots x = imaged();
        int acts = x.count(10);
        edges.due(39, "an IMAGE is no ACT", x.image(), 2);
        edges.due(39, "an IMAGE is no ACT", x.count(10), acts);
        x.heap(0);
        x.mast(0);
        x.moves(0, 3);
        x.oath(0);
        x.fog(9);
        x.years(60, 1);
        Texts.law(x, "y:3");
        x.mist(8);
        x.given(0, 1, true);
        x.heard(1, 2);
        x.heap(9);
        edges.due(40, "the HOUR", x.back(), 2);
        int[] counts = {4, 2, 1, 0, 0, 2, 8, 1, 1, 2, 0};
        for (int what = 0; what < counts.length; what++) {
            edges.due(40, "so again (no ACT can be UNDONE), no more: count(" + what + ")", x.count(what), counts[what]);
        }
        edges.due(40, "no ACT can be UNDONE then", x.undo(), NONE);
        edges.due(40, "HEIGHTS", x.height(0), 1);
        edges.due(40, "FOG", x.rule(3), 0);
        edges.due(40, "COINS", x.rule(2), 22);
        edges.due(40, "where TOWERS are", Edges.tower(x, 0, 0), 0);
        edges.due(40, "MASTS", Edges.tower(x, 0, 1), 2);
        edges.due(40, "oaths", x.most(4), 2);
        edges.due(40, "the LOG", x.log(1, 2), 2);
        edges.due(40, "the LOG", x.log(2, 2), NONE);
        edges.due(40, "STATUS stays", x.status(0), 1);
        edges.due(40, "once more", x.back(), 2);
        x.hours(1);
        edges.due(21, "what is done behind BACK can be UNDONE", x.undo(), 0);
    }

    private static void imageOfThisLand() {
        BlindSpots x = land("sf9;t");
        x.image();
        x.hours(60);
        edges.due(39, "instead of the one ahead", x.image(), 60);
        x.hours(60);
        x.hours(60);
        edges.due(40, "the latest IMAGE", x.back(), 60);
        edges.due(40, "the LOG, all 60 of it", x.log(59, 2), 9);
        edges.due(40, "the LOG, all 60 of it", x.log(60, 2), NONE);
        BlindSpots undone = land("sf9;t");
        undone.hours(3);
        undone.image();
        for (int k = 0; k < 3; k++) {
            undone.undo();
        }
        edges.due(40, "what was UNDONE behind the IMAGE", undone.back(), 3);
        edges.due(40, "what was UNDONE behind the IMAGE", undone.log(0, 2), 7);
        edges.refused(40, "NONE: no IMAGE of this LAND", () -> {
            BlindSpots y = imaged();
            Texts.feed(y, "sw2h2;r12;r34;t;tx1");
            y.text(0);
            return y;
        }, y -> y.back(), NONE, NO_STATUS);
        BlindSpots kept = imaged();
        Texts.feed(kept, "tx9");
        kept.text(0);
        edges.due(40, "a text that was refused leaves it", kept.back(), 2);
        Texts.law(kept, "y:2");
        edges.due(40, "a LAW leaves it", kept.back(), 2);
    }

    private static void counts() {
        int[] least = {0, 0, 0, 0, NONE, 0, 3, 0, 0, 0, 0};
        BlindSpots none = new BlindSpots();
        for (int what = 0; what <= 10; what++) {
            edges.due(41, "the least: count(" + what + ")", none.count(what), least[what]);
        }
        edges.refusedEach(41, "HIDDEN for others", () -> land("sw2h2;t"), (x, what) -> x.count(what),
                Edges.outside(0, 10), Edges.HIDDEN, NO_STATUS);
        edges.refusedEach(41, "HIDDEN for others, no LAND", BlindSpots::new, (x, what) -> x.count(what),
                Edges.outside(0, 10), Edges.HIDDEN, NO_STATUS);
        BlindSpots x = land("sw6h5;t;t;t;t");
        for (int k = 0; k < 4; k++) {
            Texts.law(x, "y:9");
        }
        x.mist(9);
        for (int k = 0; k < 166; k++) {
            x.hours(60);
        }
        x.hours(39);
        for (int k = 0; k < 11; k++) {
            x.given(0, 0, true);
            x.heard(0, 0);
        }
        Texts.feed(x, "t".repeat(240));
        int[] most = {30, 4, 4, 240, 3, 9999, 9, 10, 10, 60, 40};
        for (int what = 0; what <= 10; what++) {
            edges.due(41, "the most: count(" + what + ")", x.count(what), most[what]);
        }
    }

    private static void lastOf512Calls() {
        BlindSpots x = new BlindSpots();
        x.feed('t', 0, 0, 0, 0);
        x.text(0);
        for (int k = 3; k < 512; k++) {
            x.oath(0);
        }
        edges.due(41, "an object is used for at most 512 calls: the last", x.count(10), 40);
    }
}
