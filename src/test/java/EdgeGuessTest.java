/** The edges of what was GIVEN and HEARD, games, odds, shares and the most of all: promises 30 to 38. */
public final class EdgeGuessTest {
    private static final int NONE = Edges.NONE;
    private static final int NO_STATUS = Edges.NO_STATUS;
    private static final int ALL_PARTS = 1000000000;
    private static final Edges edges = new Edges("EdgeGuessTest");

    public static void main(String[] args) {
        givenTen();
        heightsRising();
        heightsOfOwnCell();
        heightsAsTold();
        asks();
        heardTen();
        falseTowers();
        gameBounds();
        gameMasts();
        gameNow();
        rests();
        oddsBounds();
        oddsOfFog();
        oddsCut();
        shares();
        highestAndLowest();
        sharpestAndBlindest();
        flat();
        lostAndHid();
        mutual();
        mostRefused();
        edges.meets(30, 38);
        edges.end();
    }

    private static BlindSpots land(String text) {
        return Texts.land(text);
    }

    // ---- promises 30 to 32 ----

    private static BlindSpots givenOften(int many) {
        BlindSpots x = land("sw2h2;t;t");
        for (int k = 0; k < many; k++) {
            x.given(k % 2, k % 4, true);
        }
        return x;
    }

    private static void givenTen() {
        edges.due(30, "10 at most: the first", givenOften(0).given(1, 3, false), 1);
        edges.due(30, "10 at most: the tenth", givenOften(9).given(0, 0, true), 10);
        edges.refused(30, "there are ten", () -> givenOften(10), x -> x.given(0, 0, true), NONE, NO_STATUS);
        edges.refused(30, "there are ten", () -> givenOften(10), x -> x.given(0, 0, false), NONE, NO_STATUS);
        edges.refusedEach(30, "no such ones: a TOWER", () -> givenOften(1), (x, tower) -> x.given(tower, 0, true),
                Edges.outside(0, 1), NONE, NO_STATUS);
        edges.refusedEach(30, "no such ones: a CELL", () -> givenOften(1), (x, cell) -> x.given(0, cell, true),
                Edges.outside(0, 3), NONE, NO_STATUS);
        edges.refused(30, "no such ones: no LAND", BlindSpots::new, x -> x.given(0, 0, true), NONE, NO_STATUS);
        BlindSpots tenth = givenOften(9);
        edges.due(30, "the tenth ahead of it", tenth.heights(3, NONE), 10);
        tenth.given(0, 3, false);
        edges.due(30, "the tenth is of use", tenth.heights(3, NONE), 0);
        BlindSpots undone = givenOften(1);
        undone.oath(0);
        undone.undo();
        edges.due(30, "it is no ACT", undone.count(7), 1);
        edges.due(30, "it is no ACT", undone.undo(), NONE);
    }

    private static void heights(String sentence, BlindSpots x, int cell, int... due) {
        edges.due(31, sentence + ": how many (i NONE)", x.heights(cell, NONE), due.length);
        for (int i = 0; i < due.length; i++) {
            edges.due(31, sentence + ": the i-th, " + i, x.heights(cell, i), due[i]);
        }
        edges.due(31, sentence + ": no such one, " + due.length, x.heights(cell, due.length), NONE);
        edges.due(31, sentence + ": no such one, -2", x.heights(cell, -2), NONE);
        edges.due(31, sentence + ": no such one", x.heights(cell, Integer.MIN_VALUE), NONE);
        edges.due(31, sentence + ": no such one", x.heights(cell, Integer.MAX_VALUE), NONE);
    }

    private static void heightsRising() {
        BlindSpots x = land("sw3h2f1;r020;tm0");
        heights("nothing GIVEN: 0 .. 9", x, 2, 0, 1, 2, 3, 4, 5, 6, 7, 8, 9);
        x.given(0, 2, true);
        heights("seen over a hill", x, 2, 4, 5, 6, 7, 8, 9);
        heights("GIVEN of another CELL", x, 1, 0, 1, 2, 3, 4, 5, 6, 7, 8, 9);
        heights("the last CELL", x, 5, 0, 1, 2, 3, 4, 5, 6, 7, 8, 9);
        x.given(0, 2, false);
        heights("both are GIVEN", x, 2);
        BlindSpots unseen = land("sw3h2f1;r020;tm0");
        unseen.given(0, 2, false);
        heights("not seen over a hill", unseen, 2, 0, 1, 2, 3);
        BlindSpots nine = land("sw3h2f9;t");
        nine.given(0, 2, true);
        heights("the highest alone", nine, 2, 9);
        nine.given(0, 1, false);
        heights("all but the highest", nine, 1, 0, 1, 2, 3, 4, 5, 6, 7, 8);
        BlindSpots one = land("sw3h2f1;t");
        one.given(0, 2, false);
        heights("the lowest alone", one, 2, 0);
        BlindSpots two = land("sw3h2f1;r020;tm0;tx2y1m0l0");
        two.given(0, 2, true);
        two.given(1, 2, false);
        heights("all GIVEN of it", two, 2, 4, 5, 6, 7, 8, 9);
        edges.refusedEach(31, "no such CELL", () -> land("sw2h2;t"), (y, cell) -> y.heights(cell, NONE),
                Edges.outside(0, 3), NONE, NO_STATUS);
        edges.refusedEach(31, "no such CELL", () -> land("sw2h2;t"), (y, cell) -> y.heights(cell, 0),
                Edges.outside(0, 3), NONE, NO_STATUS);
        edges.refused(31, "no LAND", BlindSpots::new, y -> y.heights(0, NONE), NONE, NO_STATUS);
        edges.refused(31, "asking changes nothing", () -> givenOften(3), y -> y.heights(0, NONE), 10, NO_STATUS);
    }

    private static void heightsOfOwnCell() {
        BlindSpots x = land("sw2h2f4;r9;tm0l0");
        x.given(0, 0, true);
        heights("the TOWER's own, too", x, 0, 4, 5, 6, 7, 8, 9);
        BlindSpots y = land("sw2h2f4;r9;tm0l0");
        y.given(0, 0, false);
        heights("the TOWER's own, too", y, 0, 0, 1, 2, 3);
    }

    private static void heightsAsTold() {
        BlindSpots x = land("sw3h2f1k99;r020;tm0;tx2y1m0l0");
        x.given(0, 2, true);
        x.heap(1);
        x.heap(2);
        x.mast(0);
        x.moves(0, 5);
        x.fog(9);
        x.hours(3);
        heights("all else as told", x, 2, 4, 5, 6, 7, 8, 9);
        Texts.law(x, "y:h");
        heights("HOUR 0", x, 2);
        Texts.law(x, "y:f*2");
        heights("FOG as told", x, 2, 4, 5, 6, 7, 8, 9);
        Texts.law(x, "y:m+2");
        heights("MASTS as told", x, 2, 4, 5, 6, 7, 8, 9);
        Texts.law(x, "y:m+1");
        heights("MASTS as told", x, 2);
        x.law(NONE);
        x.image();
        x.back();
        heights("an IMAGE is no matter", x, 2, 4, 5, 6, 7, 8, 9);
    }

    private static void asks() {
        // by FOG 5 TOWER 0 sees none of the HEIGHTS (0 to 10), TOWER 1 five of them (5 to 5)
        BlindSpots x = land("sw3h2f5;tl0;tx2y1l1");
        edges.due(32, "least apart", x.ask(2), 1);
        edges.due(32, "of several the lowest", land("sw3h2f5;t;t;t;t").ask(2), 0);
        edges.due(32, "least apart: the last of four", land("sw3h2f5;tl0;tl0;tl0;tl9").ask(2), 3);
        edges.due(32, "the only TOWER", land("sw3h2;t").ask(0), 0);
        edges.due(32, "the last CELL", land("sw3h2f5;tl0;tl9").ask(5), 1);
        x.given(1, 2, true);
        edges.due(32, "among these: alike now", x.ask(2), 0);
        x.given(1, 2, false);
        edges.due(32, "nothing fits", x.ask(2), NONE);
        edges.due(32, "another CELL still does", x.ask(1), 1);
        // over a hill TOWER 0 sees CELL 2 by 4 and more (6 to 4), TOWER 1 always
        edges.due(32, "seeing more than not", land("sw3h2;r020;tm0;tx2y1").ask(2), 0);
        edges.due(32, "not seeing more than seeing", land("sw3h2f6;r020;tl0;tm0").ask(2), 1);
        // by 6 and more (4 to 6) and by 4 and more (6 to 4)
        edges.due(32, "as far apart either way, the lowest", land("sw3h3;r030;r002;tm0;tx2y2m0").ask(2), 0);
        edges.due(32, "as far apart either way, the lowest", land("sw3h3;r020;r003;tm0;tx2y2m0").ask(2), 0);
        edges.refusedEach(32, "no such CELL", () -> land("sw2h2;t"), (y, cell) -> y.ask(cell), Edges.outside(0, 3), NONE,
                NO_STATUS);
        edges.refused(32, "no LAND", BlindSpots::new, y -> y.ask(0), NONE, NO_STATUS);
        edges.refused(32, "asking changes nothing", () -> givenOften(3), y -> y.ask(0), 0, NO_STATUS);
    }

    // ---- promises 33 and 38: HEARD, FALSE ----

    private static BlindSpots heardOften(int many) {
        BlindSpots x = land("sw2h2;tl0;tx1l0");
        for (int k = 0; k < many; k++) {
            x.heard(0, 14);
        }
        return x;
    }

    private static void heardTen() {
        edges.due(33, "10 at most: the first", heardOften(0).heard(1, 0), 1);
        edges.due(33, "10 at most: the tenth", heardOften(9).heard(1, 13), 10);
        edges.refused(33, "there are ten", () -> heardOften(10), x -> x.heard(1, 0), NONE, NO_STATUS);
        edges.due(33, "CELLS: none", heardOften(0).heard(0, 0), 1);
        edges.due(33, "CELLS: all of four", heardOften(0).heard(0, 15), 1);
        edges.due(33, "CELLS: all of thirty", land("sw6h5;t").heard(0, (1 << 30) - 1), 1);
        edges.refusedEach(33, "no such CELLS", () -> heardOften(1), (x, cells) -> x.heard(0, cells),
                new int[] {16, 17, 1 << 30, -1, -16, Integer.MIN_VALUE, Integer.MAX_VALUE}, NONE, NO_STATUS);
        edges.refusedEach(33, "no such CELLS, thirty", () -> land("sw6h5;t"), (x, cells) -> x.heard(0, cells),
                new int[] {1 << 30, 1 << 31, -1, Integer.MAX_VALUE}, NONE, NO_STATUS);
        edges.refusedEach(33, "no such TOWER", () -> heardOften(1), (x, tower) -> x.heard(tower, 0), Edges.outside(0, 1),
                NONE, NO_STATUS);
        edges.refused(33, "no LAND", BlindSpots::new, x -> x.heard(0, 0), NONE, NO_STATUS);
        BlindSpots tenth = heardOften(9);
        tenth.heard(1, 0);
        edges.due(38, "the tenth HEARD is of use", tenth.most(9), 2);
    }

    private static void falseTowers() {
        edges.due(38, "FALSE: nothing was HEARD", heardOften(0).most(9), 0);
        edges.due(38, "FALSE: what is BLIND", heardOften(1).most(9), 0);
        int[] others = {0, 2, 6, 15, 13, 1};
        for (int cells : others) {
            BlindSpots x = heardOften(1);
            x.heard(0, cells);
            edges.due(38, "FALSE: more, fewer or other CELLS, " + cells, x.most(9), 1);
        }
        BlindSpots all = land("sw2h2;t;t;t;t");
        for (int tower = 0; tower < 4; tower++) {
            all.heard(tower, 15);
        }
        edges.due(38, "FALSE: all four", all.most(9), 15);
        all.fog(9);
        edges.due(38, "FALSE: it is so now", all.most(9), 0);
        all.oath(0);
        edges.due(38, "FALSE: BROKEN is no matter", all.most(9), 0);
    }

    // ---- promises 34 and 35 ----

    private static void gameBounds() {
        BlindSpots x = land("sw2h2;tl0;tx1l0");
        for (int by = 0; by <= 3; by++) {
            edges.due(34, "x 0 .. 3: less x, " + by, x.game(0, 1, by, 0, 0), 1 - by);
            edges.due(34, "y 0 .. 3: less y, " + by, x.game(0, 1, 0, by, 1), 1 - by);
            edges.due(34, "y is no matter to the one, " + by, x.game(0, 1, 0, by, 0), 1);
            edges.due(34, "x is no matter to the other, " + by, x.game(0, 1, by, 0, 1), 1);
        }
        Edges.Making two = () -> land("sw2h2;tl0;tx1l0");
        edges.refusedEach(34, "out of bounds: x", two, (y, by) -> y.game(0, 1, by, 0, 0), Edges.outside(0, 3),
                Edges.HIDDEN, NO_STATUS);
        edges.refusedEach(34, "out of bounds: y", two, (y, by) -> y.game(0, 1, 0, by, 0), Edges.outside(0, 3),
                Edges.HIDDEN, NO_STATUS);
        edges.refusedEach(34, "no such ones: one", two, (y, tower) -> y.game(tower, 1, 0, 0, 0), Edges.outside(0, 1),
                Edges.HIDDEN, NO_STATUS);
        edges.refusedEach(34, "no such ones: the other", two, (y, tower) -> y.game(0, tower, 0, 0, 0),
                Edges.outside(0, 1), Edges.HIDDEN, NO_STATUS);
        edges.refusedEach(34, "no such ones: what", two, (y, what) -> y.game(0, 1, 0, 0, what), Edges.outside(0, 1),
                Edges.HIDDEN, NO_STATUS);
        edges.refusedEach(34, "alike", two, (y, tower) -> y.game(tower, tower, 0, 0, 0), new int[] {0, 1, 2, -1},
                Edges.HIDDEN, NO_STATUS);
        edges.refused(34, "no LAND", BlindSpots::new, y -> y.game(0, 1, 0, 0, 0), Edges.HIDDEN, NO_STATUS);
        edges.refused(34, "no MAST is raised by it", two, y -> y.game(0, 1, 3, 3, 0), -2, NO_STATUS);
        edges.due(34, "the fourth TOWER", land("sw2h2;t;t;t;tx1l0").game(3, 0, 0, 0, 1), 3);
        edges.due(34, "none that the other does not: below 0", land("sw2h2;t;t").game(0, 1, 3, 0, 0), -3);
        edges.due(34, "all CELLS", land("sw6h5;t;tl0").game(0, 1, 0, 0, 0), 29);
    }

    /** By the LAW REACH is 1 with a MAST of 9 (and 2 with one of 10, 0 with one of 8). */
    private static void gameMasts() {
        int[][] rows = {{9, 0, 1}, {9, 1, 1}, {9, 3, 1}, {8, 0, 0}, {8, 1, 1}, {8, 2, 1}, {7, 1, 0}, {7, 2, 1}, {7, 3, 1},
            {6, 2, 0}, {6, 3, 1}, {5, 3, 0}};
        for (int[] row : rows) {
            BlindSpots x = land("sw6h2;tm" + row[0] + ";tx5y1m0");
            Texts.law(x, "y:m-8");
            int seen = row[2] == 1 ? 4 : 1;
            edges.due(34, "raises its MAST (9 at most): " + row[0] + " by " + row[1], x.game(0, 1, row[1], 0, 0),
                    seen - row[1]);
            edges.due(34, "raises its MAST (9 at most), the other: " + row[0] + " by " + row[1],
                    x.game(1, 0, 0, row[1], 1), seen - row[1]);
        }
    }

    private static void gameNow() {
        BlindSpots x = land("sw6h2f3;r3;t;tx5y1");
        Texts.law(x, "y:l=9?h");
        edges.due(34, "as it is now: FOG", x.game(0, 1, 0, 0, 0), 1);
        x.fog(0);
        edges.due(34, "as it is now: the HOUR 0", x.game(0, 1, 0, 0, 0), 1);
        x.hours(1);
        edges.due(34, "as it is now: the HOUR 1", x.game(0, 1, 0, 0, 0), 4);
        x.moves(0, 1);
        edges.due(34, "as it is now: where TOWERS are", x.game(0, 1, 0, 0, 0), 6);
        x.moves(1, 7);
        edges.due(34, "as it is now: where TOWERS are", x.game(0, 1, 0, 0, 0), 0);
        x.hours(23);
        edges.due(34, "as it is now: the HOUR modulo 24", x.game(0, 1, 0, 0, 0), 1);
    }

    private static void rests() {
        BlindSpots x = land("sw2h2;tl0;tx1l0");
        edges.due(35, "raising is of no use: how many (i NONE)", x.rests(0, 1, NONE), 1);
        edges.due(35, "raising is of no use: the i-th", x.rests(0, 1, 0), 0);
        int[] wrong = {1, -2, Integer.MIN_VALUE, Integer.MAX_VALUE};
        for (int i : wrong) {
            edges.due(35, "no such one, " + i, x.rests(0, 1, i), NONE);
        }
        // raised by 0, 1, 2, 3 TOWER 0 sees 1, 4, 5, 6 CELLS: it has 3 by any raise
        BlindSpots even = land("sw6h2;r;r999999;tm0;tm0x5y1l0");
        Texts.law(even, "y:l=9?m");
        edges.due(35, "neither has more by another: alike is no more", even.rests(0, 1, NONE), 3);
        for (int i = 0; i < 3; i++) {
            edges.due(35, "10 times x and y, rising: " + i, even.rests(0, 1, i), 10 * i + 10);
            edges.due(35, "10 times x and y, rising, the other way round: " + i, even.rests(1, 0, i), i + 1);
        }
        edges.due(35, "no such one, 3", even.rests(0, 1, 3), NONE);
        // a raise by 3 shows all CELLS: if one does so, it has 29 - 3 and the other one none by any
        BlindSpots top = land("sw6h5;tm0;tm0x5y4");
        Texts.law(top, "y:m/3*9");
        edges.due(35, "one raises by 3, the other one not", top.rests(0, 1, NONE), 2);
        edges.due(35, "rising: the first", top.rests(0, 1, 0), 3);
        edges.due(35, "rising: the last", top.rests(0, 1, 1), 30);
        edges.due(35, "no such one", top.rests(0, 1, 2), NONE);
        BlindSpots three = land("sw6h5;tm0l9;tm0x5y4l8");
        Texts.law(three, "y:l=9?m/3*9");
        edges.due(35, "10 times x and y", three.rests(0, 1, 0), 30);
        edges.due(35, "10 times x and y, the other way round", three.rests(1, 0, 0), 3);
        Edges.Making two = () -> land("sw2h2;tl0;tx1l0");
        edges.refusedEach(35, "no such TOWERS: one", two, (y, tower) -> y.rests(tower, 1, NONE), Edges.outside(0, 1),
                NONE, NO_STATUS);
        edges.refusedEach(35, "no such TOWERS: the other", two, (y, tower) -> y.rests(0, tower, NONE),
                Edges.outside(0, 1), NONE, NO_STATUS);
        edges.refusedEach(35, "alike", two, (y, tower) -> y.rests(tower, tower, NONE), new int[] {0, 1, 2, -1}, NONE,
                NO_STATUS);
        edges.refused(35, "no LAND", BlindSpots::new, y -> y.rests(0, 1, NONE), NONE, NO_STATUS);
        edges.refused(35, "asking changes nothing", two, y -> y.rests(0, 1, NONE), 1, NO_STATUS);
    }

    // ---- promises 36 and 37 ----

    private static void odds(String sentence, String land, int cell, int n, int chance, int due) {
        edges.due(36, sentence + ": " + land + " odds(" + cell + ", " + n + ", " + chance + ")",
                land(land).odds(cell, n, chance), due);
    }

    private static void oddsBounds() {
        Edges.Making two = () -> land("sw2h2f1;r1;t");
        edges.refusedEach(36, "out of bounds: n", two, (x, n) -> x.odds(0, n, 50), Edges.outside(0, 8), NONE, NO_STATUS);
        edges.refusedEach(36, "out of bounds: a chance", two, (x, chance) -> x.odds(0, 1, chance),
                Edges.outside(0, 100), NONE, NO_STATUS);
        edges.refusedEach(36, "no such CELL", two, (x, cell) -> x.odds(cell, 1, 50), Edges.outside(0, 3), NONE, NO_STATUS);
        edges.refused(36, "no LAND", BlindSpots::new, x -> x.odds(0, 0, 0), NONE, NO_STATUS);
        edges.refused(36, "asking changes nothing", two, x -> x.odds(0, 1, 50), 500000000, NO_STATUS);
        odds("0 .. 8 HOURS: none, HID now", "sf1;t", 0, 0, 50, ALL_PARTS);
        odds("0 .. 8 HOURS: none, seen now", "t", 0, 0, 50, 0);
        odds("0 .. 8 HOURS: eight", "r8;t", 0, 8, 100, 0);
        odds("0 .. 8 HOURS: eight", "r7;t", 0, 8, 100, ALL_PARTS);
        odds("a chance 0 .. 100: none", "sf1;r1;t", 0, 1, 0, 0);
        odds("a chance 0 .. 100: one", "sf1;r1;t", 0, 1, 1, 10000000);
        odds("a chance 0 .. 100: 99", "sf1;r1;t", 0, 1, 99, 990000000);
        odds("a chance 0 .. 100: all", "sf1;r1;t", 0, 1, 100, ALL_PARTS);
        odds("the last CELL", "sw2h2f1;r11;r10;t", 3, 0, 0, ALL_PARTS);
        odds("HID, out of REACH", "sw2h2;tx1y1l0", 0, 0, 0, ALL_PARTS);
        odds("seen by the last of four", "sw2h2;tl0;tl0;tl0;tx1y1l0", 3, 0, 0, 0);
        odds("HID from all four", "sw2h2;tl0;tl0;tl0;tx1l0", 3, 8, 50, ALL_PARTS);
        BlindSpots late = land("sw2h2;tl9");
        for (int k = 0; k < 166; k++) {
            late.hours(60);
        }
        late.hours(39);
        Texts.law(late, "y:[h-15]*9");
        // the HOUR 9,999 is the 15th of its day, 10,000 the 16th
        edges.due(36, "the HOUR goes on, also beyond the last one: now", late.odds(3, 0, 0), ALL_PARTS);
        edges.due(36, "the HOUR goes on, also beyond the last one", late.odds(3, 1, 0), 0);
    }

    private static void oddsOfFog() {
        odds("9 at most: at 9", "sf9;r9;t", 0, 1, 100, 0);
        odds("9 at most: at 9", "sf9;r8;t", 0, 1, 100, ALL_PARTS);
        odds("9 at most: then one lower", "sf9;r8;t", 0, 2, 50, 500000000);
        odds("9 at most: then one lower", "sf9;r7;t", 0, 2, 50, 750000000);
        odds("0 at least: at 0", "r0;t", 0, 1, 0, 0);
        odds("0 at least: lower, then higher", "r0;t", 0, 2, 50, 500000000);
        odds("1 higher, not 2", "sf1;r2;t", 0, 1, 100, 0);
        odds("1 higher", "sf1;r1;t", 0, 1, 100, ALL_PARTS);
        odds("1 lower", "sf2;r1;t", 0, 1, 0, 0);
        odds("1 lower, not 2", "sf3;r1;t", 0, 1, 0, ALL_PARTS);
        odds("HID then, not on the way", "sf1;r1;t", 0, 2, 0, 0);
        BlindSpots x = land("tl9");
        Texts.law(x, "y:h");
        edges.due(36, "the HOUR goes on by one behind each: 1", x.odds(2, 1, 0), ALL_PARTS);
        edges.due(36, "the HOUR goes on by one behind each: 2", x.odds(2, 2, 0), 0);
        x.hours(16);
        edges.due(36, "the HOUR modulo 24: 23", x.odds(1, 7, 0), 0);
        edges.due(36, "the HOUR modulo 24: 24", x.odds(1, 8, 0), ALL_PARTS);
    }

    private static void oddsCut() {
        odds("cut: whole hundredths", "sf1;r1;t", 0, 1, 33, 330000000);
        odds("cut: higher by 1 of 100, five times", "sf1;r5;t", 0, 5, 1, 0);
        odds("cut: higher by 1 of 100, four times", "sf1;r4;t", 0, 4, 1, 10);
        // 1,000,000,000 by 33 of 100: 330,000,000, 108,900,000, 35,937,000, 11,859,210, 3,913,539, 1,291,467 (.87)
        odds("cut: higher each time", "r5;t", 0, 6, 33, 1291467);
        // what is left goes lower: 330,000,000, 108,900,000, 35,937,000, 11,859,210, 3,913,540, 1,291,469 come to FOG 0
        odds("cut: the rest goes lower", "sf6;t", 0, 6, 67, ALL_PARTS - 1291469);
        // by 99 of 100 lower each time: 10,000,000, 100,000, 1,000, 10, 1 (of which none is higher), 1
        odds("cut: a part of one goes lower", "sf9;r3;t", 0, 6, 99, ALL_PARTS - 1);
        odds("each part by itself", "tx1y1", 0, 5, 1, 10100956);
    }

    private static void shares() {
        BlindSpots x = land("sw3h2;tl0;tl1;tx2y1l0");
        edges.due(37, "c 0 .. 999: none", x.shares(1, 0), 0);
        edges.due(37, "c 0 .. 999: one", x.shares(1, 1), 0);
        edges.due(37, "c 0 .. 999: 999", x.shares(1, 999), 666);
        edges.due(37, "cut: 5 times 1 by 6", x.shares(0, 5), 0);
        edges.due(37, "not cut: 6 times 1 by 6", x.shares(2, 6), 1);
        edges.due(37, "none: 0", land("sf9;t").shares(0, 999), 0);
        edges.due(37, "none of its own", land("sf1;r01;tl0;tx1l0").shares(0, 999), 0);
        edges.due(37, "all is its own", land("sf1;r01;tl0;tx1l0").shares(1, 999), 999);
        edges.due(37, "the only TOWER", land("sw6h5;t").shares(0, 999), 999);
        edges.due(37, "four alike", land("sw6h5;t;t;t;t").shares(3, 999), 249);
        edges.refusedEach(37, "no such TOWER", () -> land("sw2h2;t;t"), (y, tower) -> y.shares(tower, 9),
                Edges.outside(0, 1), NONE, NO_STATUS);
        edges.refusedEach(37, "out of bounds", () -> land("sw2h2;t;t"), (y, c) -> y.shares(0, c), Edges.outside(0, 999),
                NONE, NO_STATUS);
        edges.refused(37, "no LAND", BlindSpots::new, y -> y.shares(0, 0), NONE, NO_STATUS);
    }

    // ---- promise 38 ----

    private static void most(String sentence, String land, int what, int due) {
        edges.due(38, sentence + ": " + land, land(land).most(what), due);
    }

    private static void highestAndLowest() {
        most("HIGHEST, of several the lowest number", "sw2h2;t", 0, 0);
        most("HIGHEST, of several the lowest number", "sw2h2;r12;r22;t", 0, 1);
        most("HIGHEST: the last CELL", "sw2h2;r00;r01;t", 0, 3);
        most("HIGHEST: the first CELL", "sw2h2;r98;r88;t", 0, 0);
        most("HIGHEST: the last of thirty", "sw6h5;r;r;r;r;r000009;t", 0, 29);
        most("LOWEST, of several the lowest number", "sw2h2;t", 1, 0);
        most("LOWEST, of several the lowest number", "sw2h2;r32;r22;t", 1, 1);
        most("LOWEST: the last CELL", "sw2h2;r99;r98;t", 1, 3);
        most("LOWEST: the first CELL", "sw2h2;r01;r11;t", 1, 0);
    }

    private static void sharpestAndBlindest() {
        most("SHARPEST, of several the lowest", "t;t;t;t", 2, 0);
        most("SHARPEST, of several the lowest", "tl0;t;t", 2, 1);
        most("SHARPEST: the last", "tl0;tl0;tl0;tl1", 2, 3);
        most("SHARPEST: all SEE nothing", "sf9;t;t", 2, 0);
        most("SHARPEST: all CELLS of thirty", "sw6h5;tl4;t", 2, 1);
        most("BLINDEST, of several the lowest", "t;t;t;t", 3, 0);
        most("BLINDEST, of several the lowest", "t;tl0;tl0", 3, 1);
        most("BLINDEST: the last", "t;t;t;tl0", 3, 3);
        most("BLINDEST: all SEE nothing", "sf9;t;t", 3, 0);
        most("BROKEN: none", "t;t", 4, 0);
        BlindSpots x = land("t;t;t;t");
        for (int tower = 0; tower < 4; tower++) {
            x.oath(tower);
        }
        edges.due(38, "BROKEN: all", x.most(4), 15);
    }

    private static void flat() {
        most("FLAT: all", "sw6h5;t", 5, 30);
        most("FLAT: none", "sw2h2;r01;r10;t", 5, 0);
        most("FLAT: two across", "sw3h2;r112;r345;t", 5, 2);
        most("FLAT: two down", "sw3h2;r123;r145;t", 5, 2);
        most("FLAT: the end of a ROW is not beside the next one's first", "sw3h2;r125;r534;t", 5, 0);
        most("FLAT: the first ROW is not beside the last", "sw2h3;r12;r34;r15;t", 5, 0);
        most("FLAT: a ROW's first is not beside its end", "sw3h2;r121;r343;t", 5, 0);
        most("FLAT: the last two CELLS", "sw3h2;r123;r455;t", 5, 2);
        most("FLAT: three in a ROW count once each", "sw3h2;r111;r345;t", 5, 3);
    }

    private static void lostAndHid() {
        most("LOST: none", "sw6h5;t", 6, 0);
        most("LOST: all", "sw6h5f9;r888888;t", 6, (1 << 30) - 1);
        most("LOST: as high as FOG is not", "sw2h2f9;r98;r98;t", 6, 10);
        most("HID: none", "sw6h5;t", 8, 0);
        most("HID: all", "sw6h5f9;t", 8, (1 << 30) - 1);
        most("HID: out of REACH, not LOST", "sw2h2;tl0", 8, 14);
    }

    private static void mutual() {
        most("MUTUAL: the only TOWER", "t", 7, 0);
        most("MUTUAL: two", "t;tx1", 7, 1);
        most("MUTUAL: four on one CELL", "tl0;tl0;tl0;tl0", 7, 6);
        most("MUTUAL: four", "t;tx1;tx2;tx3", 7, 6);
        most("MUTUAL: one SEES the other, not the other way round", "t;tx1l0", 7, 0);
        most("MUTUAL: the first is not seen, the last SEES", "tl0;tx1", 7, 0);
        most("MUTUAL: by FOG one CELL is not seen", "sf1;r01;t;tx1", 7, 0);
    }

    private static void mostRefused() {
        edges.refusedEach(38, "no such what", () -> land("sw2h2;t"), (x, what) -> x.most(what), Edges.outside(0, 9), NONE,
                NO_STATUS);
        for (int what = 0; what <= 9; what++) {
            int asked = what;
            edges.refused(38, "no LAND, " + what, BlindSpots::new, x -> x.most(asked), NONE, NO_STATUS);
        }
    }
}
