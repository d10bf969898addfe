/** ACTS, STATUS, UNDO, the LOG, YEARS, IMAGES and counts (promises 1, 10 to 22 and 39 to 41). */
public final class ActTest {
    private static final Checks checks = new Checks("ActTest");

    public static void main(String[] args) {
        nothingYet();
        hours();
        lastHour();
        ground();
        towers();
        fogAndCoins();
        refusedInOrder();
        mist();
        years();
        undone();
        undoneLog();
        images();
        counts();
        checks.end();
    }

    private static void status(BlindSpots x, String when, int... due) {
        for (int what = 0; what < 5; what++) {
            checks.due("20: status(" + what + ") " + when, x.status(what), due[what]);
        }
    }

    private static void nothingYet() {
        BlindSpots x = new BlindSpots();
        status(x, "of a new object", 0, 0, 0, 0, 0);
        int[] answers = {x.hours(0), x.heap(-1), x.dig(0), x.mast(9), x.moves(0, 99), x.fog(10), x.oath(0), x.give(0)};
        for (int answer : answers) {
            checks.due("10 to 17: without a LAND", answer, -1);
        }
        status(x, "without a LAND", 8, 0, 0, 0, 0);
        checks.due("19: years without a LAND", x.years(1, 1), -1);
        checks.due("21: undo without a LAND", x.undo(), -1);
        checks.due("22: log without a LAND", x.log(0, 0), -1);
        checks.due("39: image without a LAND", x.image(), -1);
        checks.due("40: back without a LAND", x.back(), -1);
        status(x, "these are not counted", 8, 0, 0, 0, 0);
        int[] counts = {0, 0, 0, 0, -1, 0, 3, 0, 0, 0, 0};
        for (int what = 0; what < counts.length; what++) {
            checks.due("1, 41: count(" + what + ")", x.count(what), counts[what]);
        }
        checks.due("20: status(5)", x.status(5), -1);
        checks.due("20: status(-1)", x.status(-1), -1);
    }

    private static void hours() {
        BlindSpots x = Texts.land("sw4h3k5f2;r2;r0001;tl0;tx3y1l0m0");
        // tower 0 sees CELL 0 (HEIGHT 2), tower 1 stands on CELL 7 (HEIGHT 1), under FOG 2
        checks.due("10: hours(3)", x.hours(3), 3);
        checks.due("10: COINS one more each", x.rule(2), 8);
        checks.due("10: FOG one less each, if any", x.rule(3), 0);
        checks.due("41: LOG", x.count(9), 3);
        checks.due("41: ACTS", x.count(10), 3);
        int[][] due = {{10, 0, 0}, {10, 0, 1}, {11, 0, 2}};
        for (int i = 0; i < 3; i++) {
            for (int what = 0; what < 3; what++) {
                checks.due("22: log(" + i + ", " + what + ")", x.log(i, what), due[i][what]);
            }
        }
        checks.due("22: log(3, 0)", x.log(3, 0), -1);
        checks.due("22: log(-1, 0)", x.log(-1, 0), -1);
        checks.due("22: log(0, 3)", x.log(0, 3), -1);
        checks.due("22: log(0, -1)", x.log(0, -1), -1);
        x.oath(1);
        x.hours(1);
        checks.due("22: BROKEN", x.log(0, 1), 2);
        checks.due("22: BROKEN ahead of it", x.log(1, 1), 0);
        checks.due("10: hours(0)", x.hours(0), -1);
        checks.due("10: hours(61)", x.hours(61), -1);
        checks.due("10: hours(-1)", x.hours(-1), -1);
        status(x, "out of bounds", 0, 3, 0, 0, 0);
        checks.due("10: hours(60)", x.hours(60), 64);
        checks.due("22: the LOG keeps 60", x.count(9), 60);
        checks.due("22: log(59, 0)", x.log(59, 0), 10);
        checks.due("22: log(60, 0)", x.log(60, 0), -1);
        BlindSpots lawful = Texts.land("tx0l0");
        Texts.law(lawful, "y:h");
        lawful.hours(3);
        // REACH 0, 1, 2 as the HOURS begin: 1, 4, 9 CELLS seen of 12
        checks.due("10: HID as the HOUR begins", lawful.log(2, 0), 11);
        checks.due("10: HID as the HOUR begins", lawful.log(1, 0), 8);
        checks.due("10: HID as the HOUR begins", lawful.log(0, 0), 3);
    }

    private static void lastHour() {
        BlindSpots x = Texts.land("sw2h2k99;t");
        for (int k = 0; k < 166; k++) {
            x.hours(60);
        }
        checks.due("10: the HOUR", x.count(5), 9960);
        checks.due("10: COINS 999 at most", x.rule(2), 999);
        checks.due("10: beyond 9,999", x.hours(40), -1);
        checks.due("19: beyond 9,999", x.years(40, 1), -1);
        status(x, "beyond the last HOUR", 0, 0, 0, 0, 1);
        checks.due("10: the last HOUR", x.hours(39), 9999);
        checks.due("10: no HOUR more", x.hours(1), -1);
        checks.due("10: out of bounds comes first", x.hours(61), -1);
        checks.due("19: no HOUR more", x.years(1, 1), -1);
        status(x, "beyond the last HOUR", 0, 1, 0, 0, 2);
        x.undo();
        checks.due("21: the HOUR back", x.count(5), 9998);
        checks.due("19: the last HOUR", x.years(1, 1), 9999);
    }

    private static void ground() {
        BlindSpots x = Texts.land("sw2h2k3;r81;t");
        checks.due("11: heap(0)", x.heap(0), 9);
        checks.due("11: HEIGHT then", x.height(0), 9);
        checks.due("11: a COIN", x.rule(2), 2);
        checks.due("11: nine", x.heap(0), -1);
        checks.due("12: dig(1)", x.dig(1), 0);
        checks.due("12: a COIN", x.rule(2), 1);
        checks.due("12: none", x.dig(1), -1);
        checks.due("11: heap(4)", x.heap(4), -1);
        checks.due("12: dig(4)", x.dig(4), -1);
        checks.due("12: dig(-1)", x.dig(-1), -1);
        status(x, "of ground", 3, 0, 2, 0, 0);
        checks.due("12: dig(0)", x.dig(0), 8);
        checks.due("12: no COIN", x.dig(0), -1);
        checks.due("11: no COIN", x.heap(0), -1);
        status(x, "of ground", 3, 0, 2, 2, 0);
        checks.due("11: HEIGHT stays", x.height(0), 8);
        checks.due("41: ACTS", x.count(10), 3);
    }

    private static void towers() {
        BlindSpots x = Texts.land("sw2h2k7;tm8;tx1");
        checks.due("13: mast(0)", x.mast(0), 9);
        checks.due("13: 2 COINS", x.rule(2), 5);
        checks.due("13: nine", x.mast(0), -1);
        checks.due("13: mast(2)", x.mast(2), -1);
        checks.due("14: moves(1, 3)", x.moves(1, 3), 1);
        checks.due("14: where it is", x.tower(1, 0), 3);
        checks.due("14: MAST stays", x.tower(1, 1), 2);
        checks.due("14: 3 COINS", x.rule(2), 2);
        checks.due("14: it is so", x.moves(1, 3), -1);
        checks.due("14: too few COINS", x.moves(1, 0), -1);
        checks.due("14: no such CELL", x.moves(1, 4), -1);
        checks.due("14: no such CELL", x.moves(1, -1), -1);
        checks.due("14: no such TOWER", x.moves(2, 0), -1);
        status(x, "of towers", 2, 2, 2, 1, 0);
        checks.due("13: all COINS", x.mast(1), 3);
        checks.due("13: too few COINS", x.mast(1), -1);
        x.give(1);
        checks.due("13: one COIN is too few", x.mast(1), -1);
        status(x, "of towers", 2, 2, 2, 3, 0);
        x.give(2);
        checks.due("14: to where another one is", x.moves(1, 0), 3);
        checks.due("16: oath(0)", x.oath(0), 1);
        checks.due("8: BROKEN", x.tower(0, 4), 1);
        checks.due("8: the other one is not", x.tower(1, 4), 0);
        checks.due("16: oath(1)", x.oath(1), 1);
        checks.due("16: kept again", x.oath(0), 0);
        checks.due("38: BROKEN", x.most(4), 2);
        checks.due("16: oath(2)", x.oath(2), -1);
        checks.due("16: oath(-1)", x.oath(-1), -1);
        status(x, "of towers", 4, 2, 2, 3, 0);
        checks.due("16: for nothing", x.rule(2), 0);
    }

    private static void fogAndCoins() {
        BlindSpots x = Texts.land("sk99f3;t");
        checks.due("15: fog(5)", x.fog(5), 3);
        checks.due("15: FOG", x.rule(3), 5);
        checks.due("15: it is so", x.fog(5), -1);
        checks.due("15: fog(10)", x.fog(10), -1);
        checks.due("15: fog(-1)", x.fog(-1), -1);
        checks.due("15: fog(9)", x.fog(9), 5);
        checks.due("15: fog(0)", x.fog(0), 9);
        status(x, "of fog", 0, 2, 1, 0, 0);
        checks.due("15: for nothing", x.rule(2), 99);
        checks.due("17: give(1)", x.give(1), 100);
        checks.due("17: give(0)", x.give(0), -1);
        checks.due("17: give(51)", x.give(51), -1);
        checks.due("17: give(-5)", x.give(-5), -1);
        for (int k = 1; k <= 17; k++) {
            checks.due("17: give(50)", x.give(50), 100 + 50 * k);
        }
        checks.due("17: above 999", x.give(50), -1);
        checks.due("17: 999", x.give(49), 999);
        checks.due("17: above 999", x.give(1), -1);
        checks.due("17: above 999", x.give(Integer.MAX_VALUE), -1);
        status(x, "of COINS", 0, 8, 1, 0, 0);
    }

    private static void refusedInOrder() {
        BlindSpots x = Texts.land("sw2h2k0;r9;tm9");
        x.heap(0);
        x.dig(3);
        x.mast(0);
        x.moves(0, 0);
        status(x, "it is so ahead of COINS", 0, 0, 4, 0, 0);
        x.moves(5, 9);
        status(x, "no TOWER ahead of no CELL", 1, 0, 4, 0, 0);
        x.moves(0, 9);
        status(x, "no CELL ahead of COINS", 1, 1, 4, 0, 0);
        x.heap(1);
        x.dig(0);
        x.moves(0, 1);
        status(x, "COINS", 1, 1, 4, 3, 0);
        checks.due("20: no ACT", x.count(10), 0);
    }

    private static void mist() {
        BlindSpots x = new BlindSpots();
        checks.yes("18: it is so", !x.mist(3));
        checks.yes("18: mist(10)", !x.mist(10));
        checks.yes("18: mist(-1)", !x.mist(-1));
        checks.due("18: as at first", x.count(6), 3);
        checks.yes("18: mist(0)", x.mist(0));
        checks.due("18: MIST", x.count(6), 0);
        checks.yes("18: mist(9)", x.mist(9));
        checks.yes("18: it is so", !x.mist(9));
        status(x, "MIST has none", 0, 0, 0, 0, 0);
    }

    /** The draws were worked out apart: (CELL, change, draw of 10) for each HOUR. */
    private static void years() {
        // seed 1: (6 -1 6) (6 -1 5) (2 0 9) (2 -1 2) (4 -1 4) (4 0 5); seed -7: (0 -1 0) (0 -1 3) (7 -1 8)
        BlindSpots x = Texts.land("sw4h2;r5555;r5555;t");
        checks.due("19: years(6, 1)", x.years(6, 1), 6);
        heights(x, 5, 5, 4, 5, 4, 5, 3, 5);
        checks.due("19: FOG", x.rule(3), 0);
        checks.due("19: COINS", x.rule(2), 26);
        int[] fogs = {0, 1, 2, 0, 0, 0};
        for (int i = 0; i < 6; i++) {
            checks.due("19: FOG in the LOG", x.log(i, 2), fogs[i]);
        }
        checks.due("19: each HOUR is one ACT", x.count(10), 6);
        checks.due("21: undo()", x.undo(), 5);
        checks.due("21: undo()", x.undo(), 4);
        checks.due("21: undo()", x.undo(), 3);
        heights(x, 5, 5, 5, 5, 5, 5, 3, 5);
        checks.due("21: FOG", x.rule(3), 0);
        checks.due("21: the HOUR", x.count(5), 3);
        x = Texts.land("sw4h2;r5555;r5555;t");
        checks.due("19: a seed below 0", x.years(3, -7), 3);
        heights(x, 3, 5, 5, 5, 5, 5, 5, 4);
        checks.due("19: FOG 2 more, then one less each", x.log(0, 2), 0);
        checks.due("19: FOG 2 more, then one less each", x.log(2, 2), 2);
        x = Texts.land("sw4h2f8;r0555;r5555;t");
        x.years(1, -7);
        heights(x, 0, 5, 5, 5, 5, 5, 5, 5);
        checks.due("19: HEIGHT 0 at least, FOG 9 at most", x.log(0, 2), 9);
        x = Texts.land("sw4h2;r9555;r5555;t");
        x.mist(0);
        x.years(1, 5);
        heights(x, 9, 5, 5, 5, 5, 5, 5, 5);
        checks.due("19: no MIST", x.log(0, 2), 0);
        checks.due("19: years(0, 1)", x.years(0, 1), -1);
        checks.due("19: years(61, 1)", x.years(61, 1), -1);
        checks.due("19: years(-1, 1)", x.years(-1, 1), -1);
        checks.due("19: the HOUR stays", x.count(5), 1);
        status(x, "YEARS have none", 0, 0, 0, 0, 0);
    }

    private static void heights(BlindSpots x, int... due) {
        for (int cell = 0; cell < due.length; cell++) {
            checks.due("19: height(" + cell + ")", x.height(cell), due[cell]);
        }
    }

    private static void undone() {
        BlindSpots x = Texts.land("sw2h2k20f1;r12;t;tx1");
        x.heap(0);
        x.dig(1);
        x.mast(1);
        x.moves(0, 3);
        x.fog(4);
        x.oath(1);
        x.give(7);
        x.hours(1);
        x.heap(9);
        checks.due("41: ACTS", x.count(10), 8);
        checks.due("21: the HOUR", x.undo(), 7);
        checks.due("21: the HOUR", x.count(5), 0);
        checks.due("21: FOG", x.rule(3), 4);
        checks.due("21: COINS", x.rule(2), 20);
        checks.due("21: the LOG", x.count(9), 0);
        checks.due("21: COINS given", x.undo(), 6);
        checks.due("21: COINS given", x.rule(2), 13);
        checks.due("21: the oath", x.undo(), 5);
        checks.due("21: the oath", x.most(4), 0);
        checks.due("21: FOG", x.undo(), 4);
        checks.due("21: FOG", x.rule(3), 1);
        checks.due("21: MOVED", x.undo(), 3);
        checks.due("21: MOVED", x.tower(0, 0), 0);
        checks.due("21: MOVED", x.rule(2), 16);
        checks.due("21: the MAST", x.undo(), 2);
        checks.due("21: the MAST", x.tower(1, 1), 2);
        checks.due("21: DUG", x.undo(), 1);
        checks.due("21: DUG", x.height(1), 2);
        checks.due("21: HEAPED", x.undo(), 0);
        checks.due("21: HEAPED", x.height(0), 1);
        checks.due("21: HEAPED", x.rule(2), 20);
        checks.due("21: none", x.undo(), -1);
        status(x, "is not UNDONE", 1, 0, 0, 0, 0);
    }

    private static void undoneLog() {
        BlindSpots x = Texts.land("sw3h3k20f5;r135;r246;t;tx2y2m0l1");
        x.years(60, 11);
        x.oath(1);
        x.years(20, 12);
        int[] before = logOf(x);
        int[] ground = new int[9];
        for (int cell = 0; cell < 9; cell++) {
            ground[cell] = x.height(cell);
        }
        x.years(39, 13);
        x.oath(0);
        x.undo();
        x.oath(0);
        checks.due("21: the latest 40", x.count(10), 40);
        for (int k = 39; k >= 0; k--) {
            checks.due("21: undo()", x.undo(), k);
        }
        checks.due("21: none", x.undo(), -1);
        checks.due("21: the HOUR", x.count(5), 80);
        int[] after = logOf(x);
        for (int k = 0; k < before.length; k++) {
            checks.due("21: the LOG, too, row " + k / 3, after[k], before[k]);
        }
        for (int cell = 0; cell < 9; cell++) {
            checks.due("21: height(" + cell + ")", x.height(cell), ground[cell]);
        }
        BlindSpots rich = Texts.land("sk99;t");
        for (int k = 0; k < 18; k++) {
            rich.give(50);
        }
        rich.hours(1);
        rich.undo();
        checks.due("21: COINS at 999", rich.rule(2), 999);
        rich.hours(60);
        checks.due("21: each HOUR is an ACT, the latest 40", rich.count(10), 40);
        rich.undo();
        checks.due("21: an HOUR", rich.count(5), 59);
    }

    private static int[] logOf(BlindSpots x) {
        int[] rows = new int[183];
        for (int k = 0; k < rows.length; k++) {
            rows[k] = x.log(k / 3, k % 3);
        }
        return rows;
    }

    private static void images() {
        BlindSpots x = Texts.land("sw3h3k30f5;r135;r246;t;tx2y2m0l1");
        checks.due("40: no IMAGE", x.back(), -1);
        x.years(50, 3);
        x.oath(1);
        x.heap(4);
        checks.due("39: image()", x.image(), 50);
        checks.due("39: no ACT", x.count(10), 40);
        int[] before = logOf(x);
        int[] ground = {x.height(0), x.height(4), x.height(8), x.rule(2), x.rule(3)};
        x.oath(0);
        x.mast(0);
        x.moves(1, 4);
        x.years(60, 4);
        x.fog(x.rule(3) == 8 ? 7 : 8);
        x.given(0, 1, true);
        checks.due("40: back()", x.back(), 50);
        checks.due("40: no ACT can be UNDONE", x.count(10), 0);
        checks.due("40: no ACT can be UNDONE", x.undo(), -1);
        int[] after = logOf(x);
        for (int k = 0; k < before.length; k++) {
            checks.due("40: the LOG, row " + k / 3, after[k], before[k]);
        }
        int[] again = {x.height(0), x.height(4), x.height(8), x.rule(2), x.rule(3)};
        for (int k = 0; k < ground.length; k++) {
            checks.due("40: as it was, " + k, again[k], ground[k]);
        }
        checks.due("40: oaths", x.most(4), 2);
        checks.due("40: MASTS", x.tower(0, 1), 2);
        checks.due("40: where TOWERS are", x.tower(1, 0), 8);
        checks.due("40: GIVEN stays", x.count(7), 1);
        x.hours(2);
        checks.due("40: back() once more", x.back(), 50);
        x.hours(2);
        checks.due("39: instead of the one ahead", x.image(), 52);
        x.hours(3);
        x.undo();
        checks.due("40: back()", x.back(), 52);
        Texts.feed(x, "t");
        x.text(0);
        checks.due("40: no IMAGE of this LAND", x.back(), -1);
    }

    private static void counts() {
        BlindSpots x = Texts.land("sw3h2;t;tx1;tx2");
        Texts.feed(x, "y:l");
        x.given(0, 0, true);
        x.given(0, 0, true);
        x.heard(0, 0);
        x.mist(5);
        x.hours(4);
        int[] due = {6, 3, 0, 3, -1, 4, 5, 2, 1, 4, 4};
        for (int what = 0; what < due.length; what++) {
            checks.due("41: count(" + what + ")", x.count(what), due[what]);
        }
        checks.due("41: count(11)", x.count(11), -1000000);
        checks.due("41: count(-1)", x.count(-1), -1000000);
    }
}
