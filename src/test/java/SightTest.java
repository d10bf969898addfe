/** What TOWERS see, ways, risks, the fewest TOWERS, one more, watched CELLS (promises 8 and 23 to 29). */
public final class SightTest {
    private static final Checks checks = new Checks("SightTest");

    public static void main(String[] args) {
        lines();
        halves();
        reaches();
        fogs();
        maps();
        ways();
        risks();
        enough();
        sites();
        watched();
        wrongOnes();
        checks.end();
    }

    private static void sees(BlindSpots x, int tower, int... due) {
        for (int cell = 0; cell < due.length; cell++) {
            checks.due("23: sees(" + tower + ", " + cell + ")", x.sees(tower, cell), due[cell]);
        }
    }

    private static void lines() {
        sees(Texts.land("sw5h2;r00300;tm2"), 0, 1, 1, 1, 0, 0, 1, 1, 1);
        // as high as the line is not in the way, one more is
        sees(Texts.land("sw3h2;r010;tm2"), 0, 1, 1, 1);
        sees(Texts.land("sw3h2;r020;tm2"), 0, 1, 1, 0);
        // EYE counts the CELL: the line to the farther CELL goes over the hill
        sees(Texts.land("sw4h2;r5300;tm0"), 0, 1, 1, 0, 1);
        sees(Texts.land("sw4h2;r0300;tm5"), 0, 1, 1, 0, 1);
        // what is higher behind the hill is seen
        sees(Texts.land("sw4h2;r0149;tm0"), 0, 1, 1, 1, 1);
        sees(Texts.land("sw4h2;r0543;tm0"), 0, 1, 1, 0, 0);
        sees(Texts.land("sw4h2;r0543;tx3m0"), 0, 0, 1, 1, 1);
        // down
        sees(Texts.land("sw2h4;r0;r1;r0;r0;tm0"), 0, 1, 1, 1, 1, 0, 1, 0, 0);
        // looking back from the far corner of the greatest LAND
        BlindSpots x = Texts.land("sw6h5;r;r01;tx5y4m0");
        checks.due("23: over CELL 7", x.sees(0, 0), 0);
        checks.due("23: over CELL 7", x.sees(0, 1), 1);
        checks.due("23: CELL 7", x.sees(0, 7), 1);
        checks.due("23: CELL 29", x.sees(0, 29), 1);
        x.heap(12);
        checks.due("23: CELL 12 is not on that way", x.sees(0, 1), 1);
        x.heap(8);
        checks.due("23: now it is so", x.sees(0, 1), 0);
    }

    private static void halves() {
        BlindSpots low = Texts.land("sw3h2;r09;r0;tm0;tx2y1m0");
        checks.due("23: of halves the greater one, down", low.sees(0, 5), 1);
        checks.due("23: of halves the greater one, up", low.sees(1, 0), 1);
        BlindSpots high = Texts.land("sw3h2;r0;r09;tm0;tx2y1m0");
        checks.due("23: of halves the greater one, down", high.sees(0, 5), 0);
        checks.due("23: of halves the greater one, up", high.sees(1, 0), 0);
        BlindSpots left = Texts.land("sw2h3;r0;r9;r0;tm0;tx1y2m0");
        checks.due("23: of halves the greater one, right", left.sees(0, 5), 1);
        checks.due("23: of halves the greater one, left", left.sees(1, 0), 1);
        BlindSpots right = Texts.land("sw2h3;r0;r09;r0;tm0;tx1y2m0");
        checks.due("23: of halves the greater one, right", right.sees(0, 5), 0);
        checks.due("23: of halves the greater one, left", right.sees(1, 0), 0);
        // thirds: (1, 1/3) is (1, 0), (2, 2/3) is (2, 1)
        checks.due("23: thirds", Texts.land("sw4h2;r09;r0;tm0").sees(0, 7), 0);
        checks.due("23: thirds", Texts.land("sw4h2;r009;r09;tm0").sees(0, 7), 1);
        checks.due("23: thirds", Texts.land("sw4h2;r0;r009;tm0").sees(0, 7), 0);
    }

    private static void reaches() {
        BlindSpots x = Texts.land("sw4h3;tx1y1l1");
        checks.due("24: REACH 1", x.map(0, 0), 4095 - 1911);
        checks.due("8: how many", x.tower(0, 5), 9);
        checks.due("24: REACH 0", Texts.land("sw4h3;tx1y1l0").map(0, 0), 4095 - 32);
        checks.due("24: REACH 2", Texts.land("sw4h3;tx0y0l2").map(0, 0), 8 + 128 + 2048);
        Texts.law(x, "y:0");
        checks.due("24: by a LAW", x.map(0, 0), 4095 - 32);
        Texts.law(x, "y:9");
        checks.due("24: by a LAW", x.map(0, 0), 0);
        checks.due("8: how many", x.tower(0, 5), 12);
        BlindSpots most = Texts.land("sw6h5;t");
        checks.due("24: 30 CELLS", most.map(0, 0), 0);
        checks.due("29: 30 CELLS", most.watched(1), (1 << 30) - 1);
    }

    private static void fogs() {
        BlindSpots x = Texts.land("sw3h2f2;r321;r123;tl9m5");
        sees(x, 0, 1, 1, 0, 0, 1, 1);
        x.fog(3);
        sees(x, 0, 1, 0, 0, 0, 0, 1);
        x.fog(4);
        sees(x, 0, 0, 0, 0, 0, 0, 0);
        checks.due("38: LOST", x.most(6), 63);
        x.fog(0);
        sees(x, 0, 1, 1, 1, 1, 1, 1);
        checks.due("38: LOST", x.most(6), 0);
    }

    private static void maps() {
        BlindSpots x = Texts.land("sw3h2;tl0;tx0l1;tx2y1l0");
        // seen: {0}, {0 1 3 4}, {5}
        checks.due("24: BLIND", x.map(0, 0), 62);
        checks.due("24: BLIND", x.map(1, 0), 36);
        checks.due("24: BLIND", x.map(2, 0), 31);
        checks.due("24: TELLS", x.map(1, 1), 36);
        x.oath(1);
        checks.due("24: TELLS, BROKEN", x.map(1, 1), 27);
        checks.due("24: BLIND stays", x.map(1, 0), 36);
        checks.due("24: TELLS, another one", x.map(0, 1), 62);
        checks.due("24: ALONE", x.map(0, 2), 0);
        checks.due("24: ALONE", x.map(1, 2), 26);
        checks.due("24: ALONE", x.map(2, 2), 32);
        checks.due("38: HID", x.most(8), 4);
        checks.due("24: map(0, 3)", x.map(0, 3), -1);
        checks.due("24: map(0, -1)", x.map(0, -1), -1);
        checks.due("24: map(3, 0)", x.map(3, 0), -1);
        checks.due("24: map(-1, 0)", x.map(-1, 0), -1);
    }

    private static BlindSpots walled() {
        return Texts.land("sw4h3;tx1y0l0;tx1y1l0");
    }

    private static void ways() {
        BlindSpots x = walled();
        way(x, 0, 2, 6, 4);
        way(x, 2, 0, 6, 6);
        way(x, 8, 3, 5, 9);
        way(x, 10, 3, 3, 6);
        way(x, 3, 10, 3, 2);
        way(x, 6, 2, 1, 2);
        way(x, 7, 7, 0, -1);
        way(x, 0, 1, -1, -1);
        way(x, 1, 0, -1, -1);
        way(x, 1, 1, -1, -1);
        x = Texts.land("sw4h3;tx1y0l0;tx1y1l0;tx1y2l0");
        way(x, 0, 2, -1, -1);
        way(x, 0, 8, 2, 4);
        way(x, 3, 10, 3, 2);
        x = Texts.land("sf9;tl0");
        way(x, 0, 11, 5, 1);
        way(x, 11, 0, 5, 7);
        checks.due("25: no such what", x.way(0, 1, 2), -1);
        checks.due("25: no such what", x.way(0, 1, -1), -1);
    }

    private static void way(BlindSpots x, int from, int to, int steps, int first) {
        checks.due("25: way(" + from + ", " + to + ", 0)", x.way(from, to, 0), steps);
        checks.due("25: way(" + from + ", " + to + ", 1)", x.way(from, to, 1), first);
    }

    private static void risks() {
        BlindSpots x = walled();
        int[][] due = {{0, 2, 0}, {1, 5, 2}, {1, 1, 1}, {0, 0, 0}, {0, 1, 1}, {1, 10, 1}};
        for (int[] row : due) {
            checks.due("26: risk(" + row[0] + ", " + row[1] + ")", x.risk(row[0], row[1]), row[2]);
        }
        x = Texts.land("sw4h3;tx1y0l0;tx1y1l0;tx1y2l0");
        int[][] more = {{0, 2, 1}, {2, 8, 1}, {1, 0, 1}, {1, 9, 2}, {9, 1, 2}, {3, 7, 0}};
        for (int[] row : more) {
            checks.due("26: risk(" + row[0] + ", " + row[1] + ")", x.risk(row[0], row[1]), row[2]);
        }
        checks.due("26: all is seen", Texts.land("t").risk(0, 11), 6);
        checks.due("26: all is seen, the greatest LAND", Texts.land("sw6h5;t").risk(0, 29), 10);
        checks.due("26: all is HID", Texts.land("sf9;t").risk(0, 11), 0);
    }

    private static void enough() {
        checks.due("27: one sees all", Texts.land("sw4h2;tl0;tl9;tx3l1").enough(), 2);
        checks.due("27: of several the least", Texts.land("t;t").enough(), 1);
        checks.due("27: none sees any", Texts.land("sf9;t;t").enough(), 0);
        checks.due("27: two of three", Texts.land("tl0;tx1l0;tx1l0").enough(), 3);
        checks.due("27: two of four", Texts.land("tx0l0;tx1l0;tx1l0;tx0l0").enough(), 3);
        checks.due("27: all", Texts.land("tx0l0;tx1l0;tx2l0;tx3l0").enough(), 15);
        // one more than the fewest is not asked, though its bits are less
        checks.due("27: the fewest first", Texts.land("sw3h2;tl0;tx1l0;tx1y1l1").enough(), 4);
        checks.due("27: no LAND", new BlindSpots().enough(), -1);
    }

    private static void sites() {
        BlindSpots x = Texts.land("sw4h3;tl0");
        site(x, 0, 1, 6, 2);
        site(x, 0, 9, 0, 0);
        site(x, 9, 0, 1, 10);
        BlindSpots walls = Texts.land("sw4h2;r0100;r0100;tl0");
        site(walls, 0, 9, 1, 0);
        site(walls, 9, 9, 0, 0);
        BlindSpots seen = Texts.land("t");
        site(seen, 0, 0, 0, 0);
        BlindSpots foggy = Texts.land("sf1;r0;r0010;tl0");
        site(foggy, 0, 1, 1, 11);
        site(foggy, 0, 2, 0, 11);
        Texts.law(x, "y:0");
        site(x, 0, 1, 6, 2);
    }

    private static void site(BlindSpots x, int mast, int reach, int cell, int left) {
        checks.due("28: site(" + mast + ", " + reach + ", 0)", x.site(mast, reach, 0), cell);
        checks.due("28: site(" + mast + ", " + reach + ", 1)", x.site(mast, reach, 1), left);
    }

    private static void watched() {
        BlindSpots x = Texts.land("tl0;tl0;tx1l0;tl1");
        // seen: {0}, {0}, {1}, {0 1 4 5}
        checks.due("29: watched(1)", x.watched(1), 51);
        checks.due("29: watched(2)", x.watched(2), 3);
        checks.due("29: watched(3)", x.watched(3), 1);
        checks.due("29: watched(4)", x.watched(4), 0);
        checks.due("29: watched(4)", Texts.land("tl0;tl0;tl1;tl0").watched(4), 1);
        checks.due("29: watched(0)", x.watched(0), -1);
        checks.due("29: watched(5)", x.watched(5), -1);
        checks.due("29: watched(2) of one TOWER", Texts.land("t").watched(2), 0);
        checks.due("29: no LAND", new BlindSpots().watched(1), -1);
    }

    private static void wrongOnes() {
        BlindSpots x = Texts.land("t");
        int[] answers = {x.sees(1, 0), x.sees(-1, 0), x.sees(0, 12), x.sees(0, -1), x.way(0, 12, 0), x.way(12, 0, 0),
            x.way(-1, 0, 0), x.way(0, 0, 2), x.way(0, 0, -1), x.risk(0, 12), x.risk(-1, 0), x.risk(12, 0),
            x.site(-1, 0, 0), x.site(10, 0, 0), x.site(0, -1, 0), x.site(0, 10, 0), x.site(0, 0, 2), x.site(0, 0, -1)};
        for (int k = 0; k < answers.length; k++) {
            checks.due("23, 25, 26, 28: wrong input " + k, answers[k], -1);
        }
        BlindSpots none = new BlindSpots();
        int[] without = {none.sees(0, 0), none.map(0, 0), none.way(0, 0, 0), none.risk(0, 0), none.site(0, 0, 0)};
        for (int answer : without) {
            checks.due("23 to 28: no LAND", answer, -1);
        }
    }
}
