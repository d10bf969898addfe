/** GIVEN, HEIGHTS, ASK, HEARD, GAMES, RESTS, ODDS, SHARES and the most of all (promises 30 to 38). */
public final class GuessTest {
    private static final Checks checks = new Checks("GuessTest");

    public static void main(String[] args) {
        given();
        asToldNotNow();
        asks();
        heard();
        games();
        rests();
        odds();
        oddsCutEachPart();
        oddsByHours();
        shares();
        most();
        noLand();
        checks.end();
    }

    private static void heights(BlindSpots x, int cell, int... due) {
        checks.due("31: heights(" + cell + ", NONE)", x.heights(cell, -1), due.length);
        for (int i = 0; i < due.length; i++) {
            checks.due("31: heights(" + cell + ", " + i + ")", x.heights(cell, i), due[i]);
        }
        checks.due("31: heights(" + cell + ", " + due.length + ")", x.heights(cell, due.length), -1);
        checks.due("31: heights(" + cell + ", -2)", x.heights(cell, -2), -1);
    }

    private static void given() {
        BlindSpots x = Texts.land("sw3h2;r010;tm0");
        heights(x, 2, 0, 1, 2, 3, 4, 5, 6, 7, 8, 9);
        checks.due("30: given", x.given(0, 2, true), 1);
        heights(x, 2, 2, 3, 4, 5, 6, 7, 8, 9);
        heights(x, 1, 0, 1, 2, 3, 4, 5, 6, 7, 8, 9);
        checks.due("30: given", x.given(0, 2, false), 2);
        heights(x, 2);
        checks.due("32: nothing fits", x.ask(2), -1);
        for (int k = 3; k <= 10; k++) {
            checks.due("30: given", x.given(0, 0, true), k);
        }
        checks.due("30: there are ten", x.given(0, 0, true), -1);
        checks.due("30: no such TOWER", x.given(1, 0, true), -1);
        BlindSpots y = Texts.land("sw3h2;r010;tm0");
        checks.due("30: no such TOWER", y.given(1, 0, true), -1);
        checks.due("30: no such TOWER", y.given(-1, 0, true), -1);
        checks.due("30: no such CELL", y.given(0, 6, true), -1);
        checks.due("30: no such CELL", y.given(0, -1, true), -1);
        checks.due("41: GIVEN", y.count(7), 0);
        y.given(0, 2, false);
        heights(y, 2, 0, 1);
        checks.due("31: no such CELL", y.heights(6, -1), -1);
        checks.due("31: no such CELL", y.heights(-1, 0), -1);
        BlindSpots own = Texts.land("sf4;tl0");
        own.given(0, 0, true);
        heights(own, 0, 4, 5, 6, 7, 8, 9);
        own.given(0, 1, false);
        heights(own, 1, 0, 1, 2, 3, 4, 5, 6, 7, 8, 9);
        own.given(0, 2, true);
        heights(own, 2);
    }

    private static void asToldNotNow() {
        BlindSpots x = Texts.land("sw3h2f4k50;r010;tm0;tx1y1");
        x.given(0, 2, true);
        heights(x, 2, 4, 5, 6, 7, 8, 9);
        x.fog(0);
        x.heap(1);
        x.mast(0);
        x.moves(0, 5);
        x.hours(5);
        heights(x, 2, 4, 5, 6, 7, 8, 9);
        Texts.law(x, "y:f-2");
        heights(x, 2, 4, 5, 6, 7, 8, 9);
        Texts.law(x, "y:f-3");
        heights(x, 2);
        Texts.law(x, "y:h");
        heights(x, 2);
        Texts.law(x, "y:h=0?2");
        heights(x, 2, 4, 5, 6, 7, 8, 9);
        x.undo();
        checks.due("30: GIVEN is no ACT", x.count(7), 1);
        // the HEIGHT of the TOWER's own CELL is what is guessed, for its LAW, too
        BlindSpots own = Texts.land("tl0");
        own.given(0, 0, true);
        Texts.law(own, "y:g-5");
        heights(own, 0, 0, 1, 2, 3, 4, 5, 6, 7, 8, 9);
    }

    private static void asks() {
        BlindSpots x = Texts.land("sw3h2f4;tl0;tx1m0");
        checks.due("32: ask(2)", x.ask(2), 1);
        checks.due("32: ask(0), of several the lowest", x.ask(0), 0);
        checks.due("32: ask(1)", x.ask(1), 1);
        x.given(1, 2, true);
        checks.due("32: both are as far apart", x.ask(2), 0);
        checks.due("32: no such CELL", x.ask(6), -1);
        checks.due("32: no such CELL", x.ask(-1), -1);
        // TOWER 0 sees CELL 2 by HEIGHT 2 and more (8 to 2), TOWER 1 never, and then by 4 and more (6 to 4)
        BlindSpots y = Texts.land("sw3h3;r010;r005;tm0;tx2y2m0");
        checks.due("32: least apart", y.ask(2), 0);
        y = Texts.land("sw3h3;r010;r002;tm0;tx2y2m0");
        checks.due("32: least apart", y.ask(2), 1);
        y.heap(5);
        y.heap(5);
        y.heap(5);
        // by 6 and more (4 to 6), by 4 and more (6 to 4): alike
        checks.due("32: as far apart", Texts.land("sw3h3;r030;r002;tm0;tx2y2m0").ask(2), 0);
        checks.due("32: as far apart", Texts.land("sw3h3;r020;r003;tm0;tx2y2m0").ask(2), 0);
        checks.due("32: as told", y.ask(2), 1);
    }

    private static void heard() {
        BlindSpots x = Texts.land("sw3h2;tl0;tx1l0");
        checks.due("33: heard", x.heard(0, 62), 1);
        checks.due("38: FALSE", x.most(9), 0);
        checks.due("33: heard", x.heard(1, 62), 2);
        checks.due("38: FALSE", x.most(9), 2);
        checks.due("33: heard", x.heard(1, 61), 3);
        checks.due("38: FALSE stays by what was heard first", x.most(9), 2);
        checks.due("33: a part is not BLIND", x.heard(0, 2), 4);
        checks.due("38: FALSE", x.most(9), 3);
        checks.due("33: no such CELLS", x.heard(0, 64), -1);
        checks.due("33: no such CELLS", x.heard(0, -1), -1);
        checks.due("33: no such CELLS", x.heard(0, Integer.MIN_VALUE), -1);
        checks.due("33: no such TOWER", x.heard(2, 0), -1);
        checks.due("33: no such TOWER", x.heard(-1, 0), -1);
        for (int k = 5; k <= 10; k++) {
            checks.due("33: heard", x.heard(1, 63), k);
        }
        checks.due("33: there are ten", x.heard(1, 0), -1);
        checks.due("41: HEARD", x.count(8), 10);
        BlindSpots y = Texts.land("sw3h2;tl0");
        y.heard(0, 62);
        y.moves(0, 1);
        checks.due("38: FALSE now", y.most(9), 1);
        y.undo();
        checks.due("38: not FALSE now", y.most(9), 0);
        y.oath(0);
        checks.due("38: it is of BLIND, not of what is TOLD", y.most(9), 0);
        checks.due("33: 30 CELLS", Texts.land("sw6h5;t").heard(0, (1 << 30) - 1), 1);
        checks.due("33: 30 CELLS", Texts.land("sw6h5;t").heard(0, 1 << 30), -1);
    }

    private static BlindSpots walls() {
        return Texts.land("sw4h2;r0200;r0200;tm0;tx3m0");
    }

    private static void games() {
        BlindSpots x = walls();
        for (int a = 0; a <= 3; a++) {
            for (int b = 0; b <= 3; b++) {
                checks.due("34: game(0, 1, " + a + ", " + b + ", 0)", x.game(0, 1, a, b, 0), 2 - a);
                checks.due("34: game(0, 1, " + a + ", " + b + ", 1)", x.game(0, 1, a, b, 1), (a == 3 ? 2 : 4) - b);
                checks.due("34: game(1, 0, " + b + ", " + a + ", 0)", x.game(1, 0, b, a, 0), (a == 3 ? 2 : 4) - b);
            }
        }
        checks.due("34: no MAST was raised", x.tower(0, 1), 0);
        BlindSpots high = Texts.land("sw4h2;tm9l0;tx1l0m8");
        checks.due("34: MASTS 9 at most", high.game(0, 1, 3, 3, 0), -2);
        Texts.law(high, "y:m-9");
        checks.due("34: MASTS 9 at most", high.game(0, 1, 3, 3, 1), -2);
        Texts.law(high, "y:m-8");
        // REACH of TOWER 0 is 1 at any rate; of TOWER 1 it is 1 if it is raised: {0 1 4 5}, {0 1 2 4 5 6}
        checks.due("34: REACH by the MAST then", high.game(0, 1, 0, 0, 0), 3);
        checks.due("34: REACH by the MAST then", high.game(0, 1, 0, 1, 0), 0);
        checks.due("34: REACH by the MAST then", high.game(0, 1, 0, 1, 1), 1);
        int[] wrong = {x.game(0, 0, 0, 0, 0), x.game(0, 2, 0, 0, 0), x.game(2, 0, 0, 0, 0), x.game(-1, 0, 0, 0, 0),
            x.game(0, -1, 0, 0, 0), x.game(0, 1, 4, 0, 0), x.game(0, 1, -1, 0, 0), x.game(0, 1, 0, 4, 0),
            x.game(0, 1, 0, -1, 0), x.game(0, 1, 0, 0, 2), x.game(0, 1, 0, 0, -1)};
        for (int k = 0; k < wrong.length; k++) {
            checks.due("34: wrong input " + k, wrong[k], -1000000);
        }
    }

    private static void rests() {
        BlindSpots x = walls();
        checks.due("35: how many", x.rests(0, 1, -1), 1);
        checks.due("35: the first", x.rests(0, 1, 0), 0);
        checks.due("35: no such one", x.rests(0, 1, 1), -1);
        checks.due("35: no such one", x.rests(0, 1, -2), -1);
        BlindSpots over = Texts.land("sw6h2;r010000;r01;tm0;tx5l0");
        checks.due("35: how many", over.rests(0, 1, -1), 1);
        checks.due("35: 10 times x and y", over.rests(0, 1, 0), 20);
        checks.due("35: the other way round", over.rests(1, 0, 0), 2);
        // by this LAW TOWER 0 sees 1, 4, 5, 6 CELLS: raised by 1, 2 or 3 it has 3
        BlindSpots even = Texts.land("sw6h2;r;r999999;tm0;tm0x5y1l0");
        Texts.law(even, "y:l=9?m");
        checks.due("35: how many", even.rests(0, 1, -1), 3);
        checks.due("35: rising", even.rests(0, 1, 0), 10);
        checks.due("35: rising", even.rests(0, 1, 1), 20);
        checks.due("35: rising", even.rests(0, 1, 2), 30);
        checks.due("35: no such one", even.rests(0, 1, 3), -1);
        checks.due("35: the other way round", even.rests(1, 0, 2), 3);
        BlindSpots third = Texts.land("sw6h5;tm0;tm0x5y4l0");
        Texts.law(third, "y:l=9?m/3*9");
        checks.due("35: how many", third.rests(0, 1, -1), 1);
        checks.due("35: raised by 3", third.rests(0, 1, 0), 30);
        checks.due("35: raised by 3", third.rests(1, 0, 0), 3);
        checks.due("35: wrong", even.rests(0, 0, -1), -1);
        checks.due("35: wrong", even.rests(0, 2, -1), -1);
        checks.due("35: wrong", even.rests(-1, 0, -1), -1);
        checks.due("35: wrong", even.rests(0, -1, 0), -1);
    }

    private static BlindSpots steps() {
        return Texts.land("sw6h2f1;r012345;tm9");
    }

    private static void odds() {
        BlindSpots x = steps();
        int all = 1000000000;
        int[][] due = {{3, 3, 100, all}, {3, 2, 100, 0}, {0, 0, 50, all}, {1, 0, 50, 0}, {0, 1, 0, 0}, {0, 8, 0, 0},
            {0, 1, 50, 500000000}, {0, 2, 50, 750000000}, {1, 1, 30, 300000000}, {5, 8, 100, all},
            {5, 5, 33, 3913539}, {5, 6, 33, 1291467}, {5, 4, 33, 0}, {4, 4, 33, 11859210}, {2, 2, 25, 62500000}};
        dueOdds(x, due);
        checks.due("36: FOG is as it was", x.rule(3), 1);
        BlindSpots high = Texts.land("sf9;r98;tm9");
        checks.due("36: FOG 9 at most", high.odds(0, 8, 100), 0);
        checks.due("36: FOG 9 at most", high.odds(1, 8, 100), all);
        checks.due("36: FOG 9 now", high.odds(1, 0, 0), all);
        checks.due("36: 9, then 8", high.odds(1, 1, 40), 400000000);
        int[] wrong = {x.odds(12, 0, 0), x.odds(-1, 0, 0), x.odds(0, 9, 0), x.odds(0, -1, 0), x.odds(0, 0, 101),
            x.odds(0, 0, -1)};
        for (int k = 0; k < wrong.length; k++) {
            checks.due("36: wrong input " + k, wrong[k], -1);
        }
    }

    private static void dueOdds(BlindSpots x, int[][] due) {
        for (int[] row : due) {
            String call = "36: odds(" + row[0] + ", " + row[1] + ", " + row[2] + ")";
            checks.due(call, x.odds(row[0], row[1], row[2]), row[3]);
        }
    }

    /** Joining the parts that have come to the same FOG would answer some more in each of these rows. */
    private static void oddsCutEachPart() {
        dueOdds(steps(), new int[][] {{0, 6, 37, 559783491}, {0, 7, 37, 519886746}, {0, 8, 1, 10101083},
            {0, 8, 99, 999999951}, {1, 8, 37, 262190408}, {2, 7, 63, 547182951}, {3, 8, 51, 194425097},
            {0, 8, 7, 75498284}, {4, 8, 77, 730874999}, {5, 8, 77, 429891990}});
        dueOdds(Texts.land("tx1y1"), new int[][] {{0, 5, 1, 10100956}, {0, 4, 1, 10099000}, {0, 8, 1, 10100956}});
    }

    private static void oddsByHours() {
        BlindSpots x = Texts.land("t");
        Texts.law(x, "y:h");
        checks.due("36: the HOUR 1", x.odds(2, 1, 0), 1000000000);
        checks.due("36: the HOUR 2", x.odds(2, 2, 0), 0);
        x.hours(22);
        checks.due("36: the HOUR 23", x.odds(2, 1, 0), 0);
        checks.due("36: the HOUR 24", x.odds(2, 2, 0), 1000000000);
        checks.due("36: the HOUR stays", x.count(5), 22);
        Texts.law(x, "y:f");
        checks.due("36: REACH by FOG then", x.odds(0, 1, 100), 1000000000);
        checks.due("36: REACH by FOG then", x.odds(1, 0, 100), 1000000000);
    }

    private static void shares() {
        BlindSpots x = Texts.land("sw3h2;tl0;tx0l1;tx2y1l0");
        // 1, 4 and 1 CELLS
        int[][] due = {{0, 6, 1}, {1, 6, 4}, {2, 6, 1}, {1, 999, 666}, {0, 999, 166}, {0, 5, 0}, {1, 0, 0}};
        for (int[] row : due) {
            checks.due("37: shares(" + row[0] + ", " + row[1] + ")", x.shares(row[0], row[1]), row[2]);
        }
        checks.due("37: none", Texts.land("sf9;t").shares(0, 9), 0);
        checks.due("37: shares(3, 9)", x.shares(3, 9), -1);
        checks.due("37: shares(-1, 9)", x.shares(-1, 9), -1);
        checks.due("37: shares(0, 1000)", x.shares(0, 1000), -1);
        checks.due("37: shares(0, -1)", x.shares(0, -1), -1);
    }

    private static void most() {
        BlindSpots x = Texts.land("sw3h3f2;r313;r141;r222;tx0l1;tx1y1l9;tx1y1l1;tx2y2l0");
        checks.due("38: HIGHEST", x.most(0), 4);
        checks.due("38: LOWEST, of several the lowest", x.most(1), 1);
        // no lower than FOG: 0 2 4 6 7 8; TOWER 0 sees 0 4, 1 and 2 all six, 3 its own
        checks.due("38: SHARPEST", x.most(2), 1);
        checks.due("38: BLINDEST", x.most(3), 3);
        checks.due("38: BROKEN", x.most(4), 0);
        x.oath(0);
        x.oath(3);
        checks.due("38: BROKEN", x.most(4), 9);
        checks.due("38: FLAT", x.most(5), 3);
        checks.due("38: LOST", x.most(6), 2 + 8 + 32);
        // TOWERS 1 and 2 stand on one CELL, 0 sees it and is seen by both; 3 sees none but is seen
        checks.due("38: MUTUAL", x.most(7), 3);
        checks.due("38: HID", x.most(8), 2 + 8 + 32);
        checks.due("38: FALSE", x.most(9), 0);
        checks.due("38: most(10)", x.most(10), -1);
        checks.due("38: most(-1)", x.most(-1), -1);
        BlindSpots flat = Texts.land("sw6h5;t;t");
        checks.due("38: HIGHEST", flat.most(0), 0);
        checks.due("38: LOWEST", flat.most(1), 0);
        checks.due("38: SHARPEST", flat.most(2), 0);
        checks.due("38: BLINDEST", flat.most(3), 0);
        checks.due("38: FLAT", flat.most(5), 30);
        checks.due("38: MUTUAL", flat.most(7), 1);
        BlindSpots wrap = Texts.land("sw2h2;r12;r23;t");
        checks.due("38: FLAT, no CELLS aslant", wrap.most(5), 0);
        wrap = Texts.land("sw3h2;r125;r534;t");
        checks.due("38: FLAT, not round the edge", wrap.most(5), 0);
        checks.due("38: HIGHEST", wrap.most(0), 2);
    }

    private static void noLand() {
        BlindSpots x = new BlindSpots();
        int[] answers = {x.given(0, 0, true), x.heights(0, -1), x.ask(0), x.heard(0, 0), x.rests(0, 1, -1),
            x.odds(0, 0, 0), x.shares(0, 0), x.most(0), x.most(4), x.most(9)};
        for (int k = 0; k < answers.length; k++) {
            checks.due("30 to 38: no LAND " + k, answers[k], -1);
        }
        checks.due("34: no LAND", x.game(0, 1, 0, 0, 0), -1000000);
    }
}
