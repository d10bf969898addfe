/** The edges of what is seen, ways, risks and of TOWERS that do as well or best: promises 23 to 29. */
public final class EdgeSightTest {
    private static final int NONE = Edges.NONE;
    private static final int NO_STATUS = Edges.NO_STATUS;
    private static final Edges edges = new Edges("EdgeSightTest");

    public static void main(String[] args) {
        noLowerThanFog();
        noFartherThanReach();
        nothingInTheWay();
        levelWithTheLine();
        linesBetweenWholeNumbers();
        halvesTheGreater();
        towersAndCells();
        maps();
        alone();
        waysOfHidCells();
        waysNotRoundTheEdge();
        waysTheLowest();
        waysRefused();
        risks();
        enough();
        siteBounds();
        siteTheLowest();
        watched();
        edges.meets(23, 29);
        edges.end();
    }

    private static BlindSpots land(String text) {
        return Texts.land(text);
    }

    private static void sees(String sentence, String land, int cell, int due) {
        edges.due(23, sentence + ": " + land + ", CELL " + cell, land(land).sees(0, cell), due);
    }

    // ---- promise 23 ----

    private static void noLowerThanFog() {
        for (int fog = 0; fog <= 9; fog++) {
            for (int height = Math.max(0, fog - 1); height <= Math.min(9, fog + 1); height++) {
                String text = "sw2h2f" + fog + ";r" + height + ";r0" + height + ";tm9";
                sees("no lower than FOG, its own CELL", text, 0, height >= fog ? 1 : 0);
                sees("no lower than FOG, another one", text, 3, height >= fog ? 1 : 0);
                edges.due(38, "LOST: lower than FOG: " + text, land(text).most(6) & 9, height >= fog ? 0 : 9);
            }
        }
        sees("FOG is no matter between", "sw3h2f1;r101;t", 2, 1);
        sees("FOG is no matter where the TOWER is", "sw3h2f1;r001;t", 2, 1);
    }

    private static void noFartherThanReach() {
        for (int reach = 0; reach <= 5; reach++) {
            String text = "sw6h5;tl" + reach;
            for (int far = Math.max(0, reach - 1); far <= Math.min(5, reach + 1); far++) {
                int due = far <= reach ? 1 : 0;
                sees("no farther than REACH across", text, far, due);
                if (far < 5) {
                    sees("no farther than REACH down", text, 6 * far, due);
                    sees("no farther than REACH aslant", text, 7 * far, due);
                    sees("the greater one: across", text, 6 * (far / 2) + far, due);
                    sees("the greater one: down", text, 6 * far + far / 2, due);
                    sees("no farther than REACH back", "sw6h5;tx5y4l" + reach, 29 - 7 * far, due);
                }
            }
        }
    }

    private static void nothingInTheWay() {
        sees("its own CELL, mast none", "sw2h2;r9;tm0", 0, 1);
        for (int cell : new int[] {1, 2, 3}) {
            sees("beside it nothing is in the way, up", "sw2h2;r09;r99;tm0", cell, 1);
            sees("beside it nothing is in the way, down", "sw2h2;r90;r00;tm9", cell, 1);
        }
        sees("the CELL itself is not in the way", "sw3h2;r009;tm0", 2, 1);
        sees("for no i: the first is in the way", "sw5h2;r01000;tm0", 4, 0);
        sees("for no i: the last is in the way", "sw5h2;r00010;tm0", 4, 0);
        sees("for no i: none", "sw5h2;r00000;tm0", 4, 1);
        sees("what is behind it is not in the way", "sw5h2;r00009;tm0", 3, 1);
        sees("across the greatest LAND", "sw6h5;tm0", 29, 1);
        edges.due(23, "across the greatest LAND, back", land("sw6h5;tx5y4m0").sees(0, 0), 1);
    }

    private static void levelWithTheLine() {
        sees("as high as the line, down", "sw3h2;r010;tm2", 2, 1);
        sees("above the line, down", "sw3h2;r020;tm2", 2, 0);
        sees("as high as the line, up", "sw3h2;r012;tm0", 2, 1);
        sees("above the line, up", "sw3h2;r022;tm0", 2, 0);
        sees("above the line, by one half", "sw3h2;r232;tm1", 2, 0);
        sees("as high as the line, level", "sw3h2;r222;tm0", 2, 1);
        sees("as high as the line, i 1 of 3", "sw4h2;r0210;tm3", 3, 1);
        sees("above the line, i 1 of 3", "sw4h2;r0310;tm3", 3, 0);
        sees("above the line, i 2 of 3", "sw4h2;r0220;tm3", 3, 0);
        sees("EYE: CELL and MAST", "sw3h2;r560;tm6", 2, 0);
        sees("EYE: CELL and MAST", "sw3h2;r560;tm7", 2, 1);
        sees("the highest EYE", "sw3h2;r990;tm9", 2, 1);
        sees("the lowest EYE", "sw3h2;r010;tm0", 2, 0);
    }

    private static void linesBetweenWholeNumbers() {
        sees("the line at one half, none", "sw3h2;r000;tm1", 2, 1);
        sees("the line at one half, one", "sw3h2;r010;tm1", 2, 0);
        sees("the line at two thirds, one", "sw4h2;r0100;tm1", 3, 0);
        sees("the line at four thirds, one", "sw4h2;r0100;tm2", 3, 1);
        sees("the line at two thirds of two, one", "sw4h2;r0010;tm2", 3, 0);
        sees("the line at one third of three, one", "sw4h2;r0010;tm3", 3, 1);
        sees("the line at 9 times 4 fifths", "sw6h2;r070000;tm9", 5, 1);
        sees("the line at 9 times 4 fifths", "sw6h2;r080000;tm9", 5, 0);
        sees("the line at 9 times 1 fifth", "sw6h2;r000010;tm9", 5, 1);
        sees("the line at 9 times 1 fifth", "sw6h2;r000020;tm9", 5, 0);
    }

    private static void halvesTheGreater() {
        // between opposite corners of 3 by 2 CELLS the way goes over CELL 4, of 2 by 3 over CELL 3
        int[][] lying = {{0, 5}, {5, 0}, {3, 2}, {2, 3}};
        int[][] standing = {{0, 5}, {5, 0}, {1, 4}, {4, 1}};
        for (int k = 0; k < 4; k++) {
            wallAnywhere("of halves the greater one, down", 3, 2, lying[k], 4);
            wallAnywhere("of halves the greater one, across", 2, 3, standing[k], 3);
        }
        // thirds go to the nearest: 1/3 to 0, 2/3 to 1
        for (int wall : new int[] {1, 2, 5, 6}) {
            edges.due(23, "thirds to the nearest, wall " + wall, walled(4, 2, 0, wall).sees(0, 7),
                    wall == 1 || wall == 6 ? 0 : 1);
            edges.due(23, "thirds to the nearest, back, wall " + wall, walled(4, 2, 7, wall).sees(0, 0),
                    wall == 1 || wall == 6 ? 0 : 1);
        }
    }

    /** A wall on any other CELL than the one on the way hides nothing. */
    private static void wallAnywhere(String sentence, int wide, int rows, int[] ends, int onTheWay) {
        for (int wall = 0; wall < wide * rows; wall++) {
            if (wall != ends[0] && wall != ends[1]) {
                edges.due(23, sentence + ": from " + ends[0] + " to " + ends[1] + ", wall " + wall,
                        walled(wide, rows, ends[0], wall).sees(0, ends[1]), wall == onTheWay ? 0 : 1);
            }
        }
    }

    private static BlindSpots walled(int wide, int rows, int tower, int wall) {
        StringBuilder text = new StringBuilder("sw" + wide + "h" + rows);
        for (int cell = 0; cell < wide * rows; cell++) {
            text.append(cell % wide == 0 ? ";r" : "").append(cell == wall ? 9 : 0);
        }
        return land(text + ";tm0x" + tower % wide + "y" + tower / wide);
    }

    private static void towersAndCells() {
        BlindSpots x = land("sw2h2;tl0;tx1y1l0");
        edges.due(23, "the first TOWER, the first CELL", x.sees(0, 0), 1);
        edges.due(23, "the last TOWER, the last CELL", x.sees(1, 3), 1);
        edges.due(23, "the first TOWER, the last CELL", x.sees(0, 3), 0);
        edges.refusedEach(23, "no such ones: a TOWER", () -> land("sw2h2;tl0;tx1y1l0"), (y, tower) -> y.sees(tower, 0),
                Edges.outside(0, 1), NONE, NO_STATUS);
        edges.refusedEach(23, "no such ones: a CELL", () -> land("sw2h2;tl0;tx1y1l0"), (y, cell) -> y.sees(1, cell),
                Edges.outside(0, 3), NONE, NO_STATUS);
        edges.refused(23, "no such ones: no LAND", BlindSpots::new, y -> y.sees(0, 0), NONE, NO_STATUS);
        edges.refused(23, "asking changes nothing", () -> land("sw2h2;t"), y -> y.sees(0, 3), 1, NO_STATUS);
    }

    // ---- promise 24 ----

    private static void maps() {
        BlindSpots x = land("sw2h2;tl0;tx1y1l0");
        x.oath(1);
        int[][] due = {{14, 14, 1}, {7, 8, 8}};
        for (int tower = 0; tower < 2; tower++) {
            for (int what = 0; what <= 2; what++) {
                edges.due(24, "BLIND, TELLS, ALONE: map(" + tower + ", " + what + ")", x.map(tower, what), due[tower][what]);
            }
        }
        edges.refusedEach(24, "no such ones: a TOWER", () -> land("sw2h2;t;t"), (y, tower) -> y.map(tower, 0),
                Edges.outside(0, 1), NONE, NO_STATUS);
        edges.refusedEach(24, "no such ones: what", () -> land("sw2h2;t;t"), (y, what) -> y.map(1, what),
                Edges.outside(0, 2), NONE, NO_STATUS);
        for (int what = 0; what <= 2; what++) {
            int asked = what;
            edges.refused(24, "no such ones: no LAND, " + what, BlindSpots::new, y -> y.map(0, asked), NONE, NO_STATUS);
        }
        int all = (1 << 30) - 1;
        BlindSpots dark = land("sw6h5f9;t");
        edges.due(24, "BLIND: all 30 CELLS", dark.map(0, 0), all);
        edges.due(24, "TELLS: all 30 CELLS", dark.map(0, 1), all);
        dark.oath(0);
        edges.due(24, "TELLS, BROKEN: none", dark.map(0, 1), 0);
        dark.fog(0);
        edges.due(24, "BLIND: none", dark.map(0, 0), 0);
        edges.due(24, "TELLS, BROKEN: all 30 CELLS", dark.map(0, 1), all);
        dark.oath(0);
        edges.due(24, "TELLS, kept again: none", dark.map(0, 1), 0);
    }

    private static void alone() {
        edges.due(24, "ALONE: the only TOWER, all it SEES", land("sw2h2;t").map(0, 2), 15);
        edges.due(24, "ALONE: the only TOWER, none", land("sw2h2f9;t").map(0, 2), 0);
        edges.due(24, "ALONE: two that SEE the same", land("sw2h2;t;t").map(0, 2), 0);
        edges.due(24, "ALONE: two that SEE the same", land("sw2h2;t;t").map(1, 2), 0);
        BlindSpots x = land("sw2h2;tl9;tx1l0;ty1l0;tx1y1l0");
        edges.due(24, "ALONE: all of its CELLS but one are seen by others", x.map(0, 2), 1);
        edges.due(24, "ALONE: the fourth TOWER", x.map(3, 2), 0);
    }

    // ---- promises 25 and 26 ----

    private static void way(String sentence, BlindSpots x, int from, int to, int steps, int first) {
        edges.due(25, sentence + ": way(" + from + ", " + to + ", 0)", x.way(from, to, 0), steps);
        edges.due(25, sentence + ": way(" + from + ", " + to + ", 1)", x.way(from, to, 1), first);
    }

    private static void waysOfHidCells() {
        BlindSpots x = land("sw4h3;tx1y1l0");
        way("alike and HID: 0, NONE", x, 0, 0, 0, NONE);
        way("alike and HID: 0, NONE", x, 11, 11, 0, NONE);
        way("alike and not HID: NONE", x, 5, 5, NONE, NONE);
        way("both ends, too: the first is not HID", x, 5, 0, NONE, NONE);
        way("both ends, too: the last is not HID", x, 0, 5, NONE, NONE);
        way("one step", x, 0, 1, 1, 1);
        way("round what is not HID", x, 4, 6, 4, 0);
        way("not aslant", x, 0, 5 + 1, 3, 1);
        way("all is HID, the greatest LAND", land("sw6h5f9;t"), 0, 29, 9, 1);
        way("all is HID, the greatest LAND, back", land("sw6h5f9;t"), 29, 0, 9, 23);
        way("nothing is HID", land("t"), 0, 1, NONE, NONE);
        way("cut in two", land("sw3h3;tx1l0;tx1y1l0;tx1y2l0"), 0, 2, NONE, NONE);
        way("cut in two, its own part", land("sw3h3;tx1l0;tx1y1l0;tx1y2l0"), 0, 6, 2, 3);
    }

    private static void waysNotRoundTheEdge() {
        way("the end of a ROW is not beside the next one's first", land("sw4h3f9;t"), 3, 4, 4, 2);
        way("the end of a ROW is not beside the next one's first", land("sw4h3f9;t"), 4, 3, 4, 0);
        way("the end of a ROW, shut in", land("sw4h3;tx2l0;tx3y1l0"), 3, 4, NONE, NONE);
        way("the first of a ROW, shut in", land("sw4h3;ty0l0;tx1y1l0;ty2l0"), 4, 3, NONE, NONE);
        way("the first ROW is not beside the last", land("sw4h3;tx1l0;ty1l0"), 0, 8, NONE, NONE);
        way("the last ROW is not beside the first", land("sw4h3;tx2y2l0;tx3y1l0"), 11, 3, NONE, NONE);
        way("a corner, open to one side", land("sw4h3;ty1l0"), 0, 8, 4, 1);
    }

    private static void waysTheLowest() {
        BlindSpots x = land("sw3h3f9;t");
        way("of several the lowest: up ahead of left", x, 4, 0, 2, 1);
        way("of several the lowest: up ahead of right", x, 4, 2, 2, 1);
        way("of several the lowest: left ahead of down", x, 4, 6, 2, 3);
        way("of several the lowest: right ahead of down", x, 4, 8, 2, 5);
        way("on such a way: not the lowest CELL beside", x, 4, 7, 1, 7);
        way("on such a way: round about", land("sw4h3;tx1y1l0;tx1l0"), 4, 6, 4, 8);
    }

    private static void waysRefused() {
        edges.refusedEach(25, "no such ones: from", () -> land("sw2h2f9;t"), (x, cell) -> x.way(cell, 0, 0),
                Edges.outside(0, 3), NONE, NO_STATUS);
        edges.refusedEach(25, "no such ones: to", () -> land("sw2h2f9;t"), (x, cell) -> x.way(0, cell, 0),
                Edges.outside(0, 3), NONE, NO_STATUS);
        edges.refusedEach(25, "no such ones: alike", () -> land("sw2h2f9;t"), (x, cell) -> x.way(cell, cell, 0),
                Edges.outside(0, 3), NONE, NO_STATUS);
        edges.refusedEach(25, "no such ones: what", () -> land("sw2h2f9;t"), (x, what) -> x.way(0, 3, what),
                Edges.outside(0, 1), NONE, NO_STATUS);
        edges.refused(25, "no such ones: no LAND", BlindSpots::new, x -> x.way(0, 0, 0), NONE, NO_STATUS);
        edges.due(25, "the last CELL", land("sw2h2f9;t").way(3, 0, 0), 2);
        edges.refusedEach(26, "no such CELLS: from", () -> land("sw2h2f9;t"), (x, cell) -> x.risk(cell, 0),
                Edges.outside(0, 3), NONE, NO_STATUS);
        edges.refusedEach(26, "no such CELLS: to", () -> land("sw2h2f9;t"), (x, cell) -> x.risk(0, cell),
                Edges.outside(0, 3), NONE, NO_STATUS);
        edges.refused(26, "no such CELLS: no LAND", BlindSpots::new, x -> x.risk(0, 0), NONE, NO_STATUS);
    }

    private static void risk(String sentence, String land, int from, int to, int due) {
        edges.due(26, sentence + ": " + land + " risk(" + from + ", " + to + ")", land(land).risk(from, to), due);
    }

    private static void risks() {
        risk("alike and HID", "sw4h3;tx1y1l0", 0, 0, 0);
        risk("alike and not HID", "sw4h3;tx1y1l0", 5, 5, 1);
        risk("both ends, too: the first", "sw4h3;tx1y1l0", 5, 0, 1);
        risk("both ends, too: the last", "sw4h3;tx1y1l0", 0, 5, 1);
        risk("both ends, too: both", "sw4h3;tx1y1l0;tx2y1l0", 5, 6, 2);
        risk("round about", "sw4h3;tx1y1l0", 4, 6, 0);
        risk("one must be crossed", "sw3h3;tx1l0;tx1y1l0;tx1y2l0", 0, 2, 1);
        risk("all is HID", "sw6h5f9;t", 0, 29, 0);
        risk("nothing is HID", "sw6h5;t", 0, 29, 10);
        risk("nothing is HID", "sw6h5;t", 29, 0, 10);
        risk("the end of a ROW is not beside the next one's first", "sw4h3;t", 3, 4, 5);
        risk("the first ROW is not beside the last", "sw4h3;t", 0, 8, 3);
        risk("the end of a ROW, shut in", "sw4h3;tx2l0;tx3y1l0", 3, 4, 1);
        risk("not aslant", "sw2h2;t", 0, 3, 3);
        risk("the longer way with fewer", "sw4h3;tl0;tx1l0;tx2l0;tx3l0", 0, 3, 2);
        risk("the last CELL", "sw2h2f9;t", 3, 3, 0);
    }

    // ---- promises 27 to 29 ----

    private static void enough(String sentence, String land, int due) {
        edges.due(27, sentence + ": " + land, land(land).enough(), due);
    }

    private static void enough() {
        enough("0: all SEE nothing", "sf9;t", 0);
        enough("0: all SEE nothing", "sf9;t;t;t;t", 0);
        enough("the only TOWER", "t", 1);
        enough("all four", "tl0;tx1l0;tx2l0;tx3l0", 15);
        enough("the last of four", "tl0;tx1l0;tx2l0;tx3l9", 8);
        enough("of several the least: one", "t;t;t;t", 1);
        enough("of several the least: two", "tl0;tx1l0;tl0;tx1l0", 3);
        enough("of several the least: the first of no use", "sw3h2f1;r011;tl0;tx1l0;tx2l0;tx1l0", 6);
        enough("the fewest ahead of the least", "sw3h2;tl0;tx1l0;tx1y1l1", 4);
        enough("the fewest ahead of the least, two", "sw4h2;tl0;tx1l0;tx0y1l1;tx3y1l1", 12);
        enough("as much as all, not all CELLS", "tl0;tl0", 1);
        edges.refused(27, "NONE: no LAND", BlindSpots::new, x -> x.enough(), NONE, NO_STATUS);
        edges.refused(27, "asking changes nothing", () -> land("sw2h2;t;t"), x -> x.enough(), 1, NO_STATUS);
    }

    private static void siteBounds() {
        BlindSpots x = land("sw3h2;r090;r090;tl0");
        edges.due(28, "MAST 0 .. 9, REACH 0 .. 9: least", x.site(0, 0, 0), 1);
        edges.due(28, "how many", x.site(0, 0, 1), 4);
        edges.due(28, "MAST 0 .. 9, REACH 0 .. 9: most", x.site(9, 9, 0), 1);
        edges.due(28, "how many", x.site(9, 9, 1), 0);
        edges.due(28, "REACH 1 and one farther", land("sw6h2;tl0").site(9, 1, 1), 5);
        edges.due(28, "REACH 5 sees all of it", land("sw6h2;tl0").site(9, 5, 0), 0);
        edges.due(28, "REACH 4 does not from CELL 0", land("sw6h2;tl0").site(9, 4, 0), 1);
        edges.refusedEach(28, "out of bounds: MAST", () -> land("sw2h2;tl0"), (y, mast) -> y.site(mast, 9, 0),
                Edges.outside(0, 9), NONE, NO_STATUS);
        edges.refusedEach(28, "out of bounds: REACH", () -> land("sw2h2;tl0"), (y, reach) -> y.site(9, reach, 0),
                Edges.outside(0, 9), NONE, NO_STATUS);
        edges.refusedEach(28, "no such what", () -> land("sw2h2;tl0"), (y, what) -> y.site(0, 0, what),
                Edges.outside(0, 1), NONE, NO_STATUS);
        edges.refused(28, "no LAND", BlindSpots::new, y -> y.site(0, 0, 0), NONE, NO_STATUS);
        edges.refused(28, "no LAND", BlindSpots::new, y -> y.site(0, 0, 1), NONE, NO_STATUS);
        edges.refused(28, "asking changes nothing", () -> land("sw2h2;tl0"), y -> y.site(0, 0, 0), 1, NO_STATUS);
    }

    private static void siteTheLowest() {
        edges.due(28, "of several the lowest: all SEE all", land("tl0").site(0, 9, 0), 0);
        edges.due(28, "of several the lowest: nothing to SEE", land("sf9;t").site(9, 9, 0), 0);
        edges.due(28, "nothing to SEE: all are HID", land("sf9;t").site(9, 9, 1), 12);
        edges.due(28, "nothing is HID", land("t").site(0, 0, 0), 0);
        edges.due(28, "nothing is HID", land("t").site(0, 0, 1), 0);
        edges.due(28, "the last CELL alone does best",
                land("sw2h2;tl0;tx1l0;ty1l0").site(0, 0, 0), 3);
        edges.due(28, "the last CELL alone does best", land("sw2h2;tl0;tx1l0;ty1l0").site(0, 0, 1), 0);
        BlindSpots four = land("sw2h2;tl0;tl0;tl0;tl0");
        edges.due(28, "one more than four", four.site(0, 0, 0), 1);
        edges.due(28, "one more than four", four.site(0, 0, 1), 2);
        edges.due(28, "the last of thirty CELLS",
                land("sw6h5f1;r;r;r;r;r000001;tl0").site(9, 0, 0), 29);
        edges.due(28, "the greatest LAND", land("sw6h5f9;r999999;t").site(9, 9, 1), 24);
        BlindSpots hill = land("sw3h2;r010;r010;tl0");
        edges.due(28, "EYE: MAST none", hill.site(0, 9, 0), 1);
        edges.due(28, "EYE: MAST one, still behind the hill", hill.site(1, 9, 0), 1);
        edges.due(28, "EYE: MAST two, over the hill", hill.site(2, 9, 0), 0);
    }

    private static void watched() {
        BlindSpots x = land("sw2h2;tl0;tl0;tl9;tl0");
        int[] due = {15, 1, 1, 1};
        for (int k = 1; k <= 4; k++) {
            edges.due(29, "1 .. 4: " + k, x.watched(k), due[k - 1]);
        }
        x = land("sw2h2;tl0;tx1l0;tl9;tx0y1l9");
        int[] stairs = {15, 15, 3, 0};
        for (int k = 1; k <= 4; k++) {
            edges.due(29, "k TOWERS or more: " + k, x.watched(k), stairs[k - 1]);
        }
        for (int k = 1; k <= 4; k++) {
            edges.due(29, "fewer TOWERS than k: " + k, land("sw2h2;t;t").watched(k), k <= 2 ? 15 : 0);
            edges.due(29, "all 30 CELLS: " + k, land("sw6h5;t;t;t;t").watched(k), (1 << 30) - 1);
            edges.due(29, "nothing is seen: " + k, land("sf9;t;t;t;t").watched(k), 0);
        }
        edges.refusedEach(29, "out of bounds", () -> land("sw2h2;t;t;t;t"), (y, k) -> y.watched(k), Edges.outside(1, 4),
                NONE, NO_STATUS);
        edges.refused(29, "no LAND", BlindSpots::new, y -> y.watched(1), NONE, NO_STATUS);
    }
}
