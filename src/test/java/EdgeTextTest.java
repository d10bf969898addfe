/** The edges of texts, LANDS and LAWS: the parts 1 and 2 of the Terms as promises 1 to 9 tell of them. */
public final class EdgeTextTest {
    private static final int NONE = Edges.NONE;
    private static final Edges edges = new Edges("EdgeTextTest");

    public static void main(String[] args) {
        newObject();
        feedUpTo240();
        feedLeavesOutZeros();
        endOfTape();
        sortsOfFault();
        clausesOfLand();
        itemsOncePerClause();
        digitsOfNumbers();
        boundsOfRules();
        boundsOfTowers();
        digitsOfRows();
        heightsNotTold();
        endsTooEarly();
        towerOutOfLand();
        moreRowsThanThere();
        rowLongerThanWide();
        firstOfSeveralFaults();
        blanksOfLands();
        clausesOfLaws();
        conditionsOfLaws();
        digitsOfLaws();
        sixWithinOneAnother();
        blanksOfLaws();
        numbersHeldBehindEachSign();
        divisions();
        firstClauseThatHolds();
        reachHeld();
        hourModulo24();
        fourLaws();
        textsRefused();
        anotherLand();
        rules();
        heights();
        towers();
        lawThatHolds();
        edges.meets(1, 9);
        edges.end();
    }

    /** The FAULT is there, also behind a longer text, and text(0) takes the LAND or refuses it by that. */
    private static void land(String sentence, String text, int fault) {
        BlindSpots reader = new BlindSpots();
        edges.due(4, sentence + ": " + text, Texts.fault(reader, 0, text), fault);
        Texts.fault(reader, 0, "sw6h5k9f9;r999999;r;r;r;r;tx5y4m0l0;t;t;tz");
        edges.due(4, sentence + ", read behind another text: " + text, Texts.fault(reader, 0, text), fault);
        if (fault == NONE) {
            BlindSpots x = Texts.land(text);
            edges.yes(5, sentence + ": is a LAND: " + text, x.count(0) >= 4 && x.count(3) == 0);
        } else {
            edges.refused(5, sentence + ": is no LAND: " + text, () -> fedOver("sw2h2;r12;tx1", text),
                    x -> x.text(0), NONE, Edges.NO_STATUS);
        }
    }

    private static void law(String sentence, String text, int fault) {
        BlindSpots reader = new BlindSpots();
        edges.due(4, sentence + ": " + text, Texts.fault(reader, 1, text), fault);
        Texts.fault(reader, 1, "y:!(!([[1=");
        edges.due(4, sentence + ", read behind another text: " + text, Texts.fault(reader, 1, text), fault);
        if (fault == NONE) {
            edges.due(5, sentence + ": is a LAW: " + text, fedOver("t", text).text(1), 0);
        } else {
            edges.refused(5, sentence + ": is no LAW: " + text, () -> fedOver("t", text),
                    x -> x.text(1), NONE, Edges.NO_STATUS);
        }
    }

    private static BlindSpots fedOver(String land, String text) {
        BlindSpots x = Texts.land(land);
        Texts.feed(x, text);
        return x;
    }

    private static BlindSpots fed(String text) {
        BlindSpots x = new BlindSpots();
        Texts.feed(x, text);
        return x;
    }

    // ---- promises 1 to 4: the object, the TAPE, sorts ----

    private static void newObject() {
        BlindSpots x = new BlindSpots();
        int[] counts = {0, 0, 0, 0, NONE, 0, 3, 0, 0, 0, 0};
        for (int what = 0; what < counts.length; what++) {
            edges.due(1, "No LAND: count(" + what + ")", x.count(what), counts[what]);
        }
        for (int what = 0; what < 5; what++) {
            edges.due(1, "nothing was refused: status(" + what + ")", x.status(what), 0);
        }
        edges.due(1, "No LAND: rule(0)", x.rule(0), NONE);
        edges.due(1, "No LAND: height(0)", x.height(0), NONE);
        edges.due(1, "No LAND: tower(0, 0)", Edges.tower(x, 0, 0), Edges.THROWN);
    }

    private static String signs(int many) {
        return "t".repeat(many);
    }

    private static void feedUpTo240() {
        edges.due(2, "the 240th byte", fed(signs(239)).feed('t', 0, 0, 0, 0), 240);
        edges.due(2, "twenty bytes up to 240", fed(signs(220)).feed(-1, -1, -1, -1, -1), 240);
        edges.refused(2, "more than 240: the 241st", () -> fed(signs(240)), x -> x.feed('t', 0, 0, 0, 0), NONE,
                Edges.NO_STATUS);
        edges.refused(2, "more than 240: twenty up to 241", () -> fed(signs(221)), x -> x.feed(-1, -1, -1, -1, -1), NONE,
                Edges.NO_STATUS);
        edges.refused(2, "more than 240: two up to 241", () -> fed(signs(239)), x -> x.feed('t' << 24, 0, 0, 0, 't'),
                NONE, Edges.NO_STATUS);
        edges.due(2, "twenty more", new BlindSpots().feed(-1, -1, -1, -1, -1), 20);
    }

    private static void feedLeavesOutZeros() {
        edges.due(2, "bytes of 0 are left out: all", new BlindSpots().feed(0, 0, 0, 0, 0), 0);
        edges.due(2, "bytes of 0 are left out: all, a full TAPE", fed(signs(240)).feed(0, 0, 0, 0, 0), 240);
        edges.due(2, "bytes of 0 are left out: nineteen up to 240",
                fed(signs(221)).feed(0x00FFFFFF, -1, -1, -1, -1), 240);
        for (int sign : new int[] {1, 127, 128, 255}) {
            for (int place = 0; place < 20; place++) {
                int[] w = new int[5];
                w[place / 4] = sign << 24 - 8 * (place % 4);
                edges.due(2, "a byte by itself, " + sign + " at " + place,
                        fed(signs(239)).feed(w[0], w[1], w[2], w[3], w[4]), 240);
                edges.due(2, "a byte by itself beyond 240, " + sign + " at " + place,
                        fed(signs(240)).feed(w[0], w[1], w[2], w[3], w[4]), NONE);
            }
        }
        BlindSpots x = new BlindSpots();
        edges.due(2, "the highest first", x.feed(0x74007800, 0x00320079, 0, 0x31006D00, 0x37), 7);
        edges.due(2, "the highest first, zeros between: tx2y1m7", x.text(0), 12);
        edges.due(2, "the highest first: CELL", x.tower(0, 0), 6);
        edges.due(2, "the highest first: MAST", x.tower(0, 1), 7);
    }

    private static void endOfTape() {
        BlindSpots x = fed("tx9");
        edges.yes(3, "all its bytes: end(3)", x.end(3));
        edges.due(3, "all its bytes stay", x.count(3), 3);
        edges.due(3, "all its bytes stay", x.fault(0), 2);
        edges.yes(3, "its first byte: end(1)", x.end(1));
        edges.due(3, "its first byte alone", x.count(3), 1);
        edges.due(3, "its first byte alone", x.fault(0), NONE);
        edges.yes(3, "no byte: end(0)", x.end(0));
        edges.due(3, "no byte", x.count(3), 0);
        edges.yes(3, "an empty TAPE: end(0)", x.end(0));
        Texts.feed(x, "ty1");
        edges.due(3, "what was cut off does not come again", x.fault(0), NONE);
        edges.yes(3, "a full TAPE: end(240)", fed(signs(240)).end(240));
        edges.refusedEach(3, "False: n", () -> fed("tx1"), (y, n) -> Edges.of(y.end(n)), Edges.outside(0, 3), 0,
                Edges.NO_STATUS);
        edges.refusedEach(3, "False: n, an empty TAPE", BlindSpots::new, (y, n) -> Edges.of(y.end(n)),
                Edges.outside(0, 0), 0, Edges.NO_STATUS);
        edges.refusedEach(3, "False: n, a full TAPE", () -> fed(signs(240)), (y, n) -> Edges.of(y.end(n)),
                Edges.outside(0, 240), 0, Edges.NO_STATUS);
    }

    private static void sortsOfFault() {
        edges.due(4, "NONE: none, a LAND", fed("t").fault(0), NONE);
        edges.due(4, "NONE: none, a LAW", fed("y:l").fault(1), NONE);
        edges.due(4, "a LAND as a LAW", fed("t").fault(1), 0);
        edges.due(4, "a LAW as a LAND", fed("y:l").fault(0), 0);
        edges.refusedEach(4, "-2: no such sort", () -> fed("t"), (x, sort) -> x.fault(sort), Edges.outside(0, 1), -2,
                Edges.NO_STATUS);
        edges.refused(4, "asking changes nothing", () -> fed("t"), x -> x.fault(0), NONE, Edges.NO_STATUS);
    }

    // ---- promises 4 and 5: the FAULT of a LAND ----

    private static void clausesOfLand() {
        land("s, one at most: none", "t", NONE);
        land("s, one at most: one", "s;t", NONE);
        land("a second s at it", "s;t;s", 4);
        land("a second s at it", "s;s;t", 2);
        land("r, none to 5: none", "sh5;t", NONE);
        land("r, none to 5: five", "sh5;r;r;r;r;r;t", NONE);
        land("a sixth r at it", "sh5;r;r;r;r;r;r;t", 14);
        land("t, 1 .. 4: one", "t", NONE);
        land("t, 1 .. 4: four", "t;t;t;t", NONE);
        land("a fifth t at it", "t;t;t;t;t", 8);
        land("in any order", "t;r;s;t;r;t;r;t", NONE);
        land("as many as there can be", "r;t;r;t;r;t;r;t;r;sh5", NONE);
        land("a fifth t behind as many as there can be", "r;t;r;t;r;t;r;t;r;sh5;t", 22);
        land("a sixth r behind as many as there can be", "r;t;r;t;r;t;r;t;r;sh5;r", 22);
        land("a second s behind as many as there can be", "r;t;r;t;r;t;r;t;r;sh5;s", 22);
        land("CLAUSES with ; between: none behind it", "t;", 2);
        land("CLAUSES with ; between: none ahead of it", ";t", 0);
        land("CLAUSES with ; between: none between two", "t;;t", 2);
        land("CLAUSES with ; between: no ;", "tt", 1);
        land("CLAUSES with ; between: no ;", "r1t", 2);
        land("another letter", "y;t", 0);
        land("another letter", "T", 0);
        land("a byte above 127", "t;" + (char) 255, 2);
    }

    private static void itemsOncePerClause() {
        String[] ofRules = {"w4", "h3", "k9", "f9"};
        String[] ofTowers = {"x1", "y1", "m1", "l1"};
        for (int k = 0; k < 4; k++) {
            land("each once at most: once", "s" + ofRules[k] + ";t", NONE);
            land("a letter that was there at it", "s" + ofRules[k] + ofRules[k] + ";t", 3);
            land("a letter that was there at it", "s" + ofRules[k] + ofRules[(k + 1) % 4] + ofRules[k] + ";t", 5);
            land("each once at most: once", "t" + ofTowers[k], NONE);
            land("a letter that was there at it", "t" + ofTowers[k] + ofTowers[k], 3);
            land("a letter that was there at it", "t" + ofTowers[k] + ofTowers[(k + 1) % 4] + ofTowers[k], 5);
            land("in a CLAUSE: in another one again", "t" + ofTowers[k] + ";t" + ofTowers[k], NONE);
            land("a letter of the other sort", "s" + ofTowers[k] + ";t", 1);
            land("a letter of the other sort", "t" + ofRules[k], 1);
        }
        land("ITEMS, none or more: none", "s;t", NONE);
        land("ITEMS, none or more: all", "sf1k2h3w4;tl1m2y1x1", NONE);
        land("a fifth ITEM", "sf1k2h3w4f1;t", 9);
        land("a fifth ITEM", "tl1m2y1x1l1", 9);
        land("a number without its letter", "s4;t", 1);
        land("a number without its letter", "t1", 1);
    }

    private static void digitsOfNumbers() {
        land("one or two digits: none", "sw;t", 2);
        land("one or two digits: none, a letter", "swh3;t", 2);
        land("one or two digits: none, the end", "t;sw", 4);
        land("one or two digits: one", "sk9;t", NONE);
        land("one or two digits: two", "sk99;t", NONE);
        land("one or two digits: two", "sk00;t", NONE);
        land("a third digit itself", "sk999;t", 4);
        land("a third digit itself", "sk000;t", 4);
        land("a third digit itself, more behind it", "sk0000;t", 4);
        land("a third digit itself, whatever stands ahead of it", "sw999;t", 4);
        land("a third digit itself, whatever stands ahead of it", "tx999", 4);
        land("a third digit itself, whatever stands ahead of it", "sw004;t", 4);
        land("a number out of bounds is wrong at its last digit: one", "sw9;t", 2);
        land("a number out of bounds is wrong at its last digit: two", "sw99;t", 3);
        land("a number out of bounds is wrong at its last digit: two", "sw01;t", 3);
        land("a number out of bounds is wrong at its last digit: the end", "tx99", 3);
        land("a digit behind a blank is no third one", "sk99 9;t", 5);
    }

    private static void boundsOfRules() {
        String[] letters = {"w", "h", "k", "f"};
        int[] least = {2, 2, 0, 0};
        int[] most = {6, 5, 99, 9};
        int[] without = {4, 3, 20, 0};
        for (int k = 0; k < 4; k++) {
            String sentence = "s: " + letters[k] + " " + least[k] + " .. " + most[k];
            for (int value = 0; value < 100; value++) {
                boolean inside = value >= least[k] && value <= most[k];
                boolean near = Math.abs(value - least[k]) < 2 || Math.abs(value - most[k]) < 2;
                if (near || value == 99) {
                    land(sentence, "s" + letters[k] + value + ";t", inside ? NONE : value < 10 ? 2 : 3);
                }
                if (near && value < 10) {
                    land(sentence, "s" + letters[k] + "0" + value + ";t", inside ? NONE : 3);
                }
            }
            edges.due(6, sentence, Texts.land("s" + letters[k] + least[k] + ";t").rule(k), least[k]);
            edges.due(6, sentence, Texts.land("s" + letters[k] + most[k] + ";t").rule(k), most[k]);
            edges.due(6, sentence + ", without", Texts.land("s;t").rule(k), without[k]);
            edges.due(6, sentence + ", without s", Texts.land("t").rule(k), without[k]);
        }
        land("k 0 .. 99", "sk100;t", 4);
        edges.due(5, "how many CELLS: the fewest", fed("sw2h2;t").text(0), 4);
        edges.due(5, "how many CELLS: the most", fed("sw6h5;t").text(0), 30);
        edges.due(5, "how many CELLS: without s", fed("t").text(0), 12);
    }

    private static void boundsOfTowers() {
        String[] letters = {"x", "y", "m", "l"};
        int[] most = {5, 4, 9, 9};
        int[] without = {0, 0, 2, 9};
        int[] whats = {0, 0, 1, 2};
        int[] times = {1, 6, 1, 1};
        for (int k = 0; k < 4; k++) {
            String sentence = "t: " + letters[k] + " 0 .. " + most[k];
            String text = "sw6h5;t" + letters[k];
            land(sentence, text + 0, NONE);
            land(sentence, text + "00", NONE);
            land(sentence, text + most[k], NONE);
            land(sentence, text + "0" + most[k], NONE);
            int above = most[k] + 1;
            land(sentence, text + above, above < 10 ? 8 : 9);
            land(sentence, text + 99, 9);
            edges.due(8, sentence, Edges.tower(Texts.land(text + 0), 0, whats[k]), 0);
            edges.due(8, sentence, Edges.tower(Texts.land(text + most[k]), 0, whats[k]), most[k] * times[k]);
            edges.due(8, sentence + ", without", Edges.tower(Texts.land("t"), 0, whats[k]), without[k]);
        }
    }

    private static void digitsOfRows() {
        land("none to 6 digits: none", "sw6;r;t", NONE);
        land("none to 6 digits: six", "sw6;r123456;t", NONE);
        land("a seventh digit of a ROW at it", "sw6;r1234567;t", 11);
        land("a seventh digit of a ROW at it, blanks between", "sw6;r1 2 3 4 5 6 7;t", 17);
        land("a seventh digit of a ROW at it, ahead of the length", "sw2;r1234567;t", 11);
        land("no letters in a ROW", "sw6;r1x1;t", 6);
        BlindSpots x = Texts.land("sw6h2;r098765;r 1 2 3 4 5 6 ;t");
        for (int cell = 0; cell < 12; cell++) {
            edges.due(7, "0 .. 9 each, from the left, CELL " + cell, x.height(cell),
                    cell == 0 ? 0 : cell < 6 ? 10 - cell : cell - 5);
        }
    }

    private static void heightsNotTold() {
        BlindSpots x = Texts.land("sw3h3;r;r7;t");
        int[] due = {0, 0, 0, 7, 0, 0, 0, 0, 0};
        for (int cell = 0; cell < due.length; cell++) {
            edges.due(7, "those not told are 0, ROWS likewise, CELL " + cell, x.height(cell), due[cell]);
        }
        x = Texts.land("sw6h5;r999999;r999999;r999999;r999999;r999999;t");
        edges.due(7, "all told", x.height(29), 9);
        Texts.feed(x, "sw6h5;t");
        edges.due(5, "another LAND", x.text(0), 30);
        edges.due(7, "those not told are 0, also behind another LAND", x.height(0), 0);
        edges.due(7, "those not told are 0, also behind another LAND", x.height(29), 0);
    }

    private static void endsTooEarly() {
        land("the length, if it ends too early", "", 0);
        land("the length, if it ends too early, blanks", "  ", 2);
        land("the length, if it ends too early", "t;", 2);
        land("the length, if it ends too early, blanks", "t;  ", 4);
        land("the length, if it ends too early", "tx", 2);
        land("the length, if it ends too early, blanks", "tx ", 3);
        land("the length, without a TOWER", "s", 1);
        land("the length, without a TOWER", "r", 1);
        land("the length, without a TOWER, blanks", "sw4;r1 ", 7);
        land("the length, without a TOWER", "sh5;r;r;r;r;r", 13);
    }

    private static void towerOutOfLand() {
        land("a TOWER out of the LAND: x within", "tx3", NONE);
        land("a TOWER out of the LAND: x", "tx4", 3);
        land("a TOWER out of the LAND: y within", "ty2", NONE);
        land("a TOWER out of the LAND: y", "ty3", 3);
        land("a TOWER out of the LAND: x within", "sw2;tx1", NONE);
        land("a TOWER out of the LAND: x", "sw2;tx2", 7);
        land("a TOWER out of the LAND: y within", "sh2;ty1", NONE);
        land("a TOWER out of the LAND: y", "sh2;ty2", 7);
        land("a TOWER out of the LAND: told ahead, within", "tx5y4;sw6h5", NONE);
        land("a TOWER out of the LAND: told ahead, x", "tx5y4;sw5h5", 11);
        land("a TOWER out of the LAND: told ahead, y", "tx5y4;sw6h4", 11);
        land("a TOWER out of the LAND: the last one", "t;t;t;tx4", 9);
        land("a TOWER out of the LAND: one in the middle, blanks", "t;ty3;t ", 8);
    }

    private static void moreRowsThanThere() {
        land("more ROWS than there are: as many", "r;r;r;t", NONE);
        land("more ROWS than there are", "r;r;r;r;t", 9);
        land("more ROWS than there are: as many", "sh2;r;r;t", NONE);
        land("more ROWS than there are", "sh2;r;r;r;t", 11);
        land("more ROWS than there are: told ahead, as many", "r;r;r;r;r;t;sh5", NONE);
        land("more ROWS than there are: told ahead", "r;r;r;r;r;t;sh4", 15);
    }

    private static void rowLongerThanWide() {
        land("a longer one than it is WIDE: as long", "r1234;t", NONE);
        land("a longer one than it is WIDE", "r12345;t", 8);
        land("a longer one than it is WIDE: as long", "sw2;r12;t", NONE);
        land("a longer one than it is WIDE", "sw2;r123;t", 10);
        land("a longer one than it is WIDE: told ahead, as long", "r123456;t;sw6", NONE);
        land("a longer one than it is WIDE: told ahead", "r123456;t;sw5", 13);
        land("a longer one than it is WIDE: the first of three", "r12345;r;r1;t", 13);
        land("a longer one than it is WIDE: the last of three", "r1;r;r12345;t", 13);
    }

    private static void firstOfSeveralFaults() {
        land("the first byte, ahead of the length", "tx4;z", 4);
        land("the first byte, ahead of the length", "r12345;r;r;r;tx9", 15);
        land("the first byte of two", "sw9;tx9", 2);
        land("the first byte of two", "tx1x1x1", 3);
    }

    private static void blanksOfLands() {
        land("blanks between all signs", "  s  w  4  h  3  k  20  f  0  ;  r  1  2  ;  t  x  1  y  1  m  2  l  9  ", NONE);
        land("blanks not within numbers", "sk2 0;t", 4);
        land("blanks not within numbers", "sw 1 2;t", 3);
        land("blanks between digits of a ROW", "r1 2 3 4;t", NONE);
        int[] others = {1, 9, 10, 13, 31, 33, 160};
        for (int other : others) {
            land("no other blanks than 32: " + other, "t" + (char) other, 1);
            law("no other blanks than 32: " + other, "y:l" + (char) other, 3);
        }
    }

    // ---- promises 4 and 5: the FAULT of a LAW ----

    private static void clausesOfLaws() {
        law("CLAUSES, one at least: none", "", 0);
        law("CLAUSES, one at least: none, blanks", "  ", 2);
        law("CLAUSES, one at least: one", "y:l", NONE);
        law("CLAUSES with ; between: two", "y:l;y:f", NONE);
        law("CLAUSES with ; between: none behind it", "y:l;", 4);
        law("CLAUSES with ; between: none behind it, blanks", "y:l; ", 5);
        law("CLAUSES with ; between: none ahead of it", ";y:l", 0);
        law("CLAUSES with ; between: none between two", "y:l;;y:l", 4);
        law("CLAUSES with ; between: no ;", "y:ly:f", 3);
        String full = "y:l;".repeat(59) + "y:12";
        law("CLAUSES as many as the TAPE holds", full, NONE);
        law("ends too early, a full TAPE", "y:l;".repeat(60), 240);
        law("y and :, ends too early", "y", 1);
        law("y and :, ends too early", "y:", 2);
        law("y and :", "yl", 1);
        law("y and :", ":l", 0);
        String[] letters = {"l", "f", "h", "g", "m", "n"};
        for (String letter : letters) {
            law("a letter (l f h g m n)", "y:" + letter, NONE);
            law("two letters", "y:l" + letter, 3);
        }
        for (String letter : new String[] {"a", "e", "i", "k", "o", "x", "y", "L", "N"}) {
            law("another letter", "y:" + letter, 2);
        }
    }

    private static void conditionsOfLaws() {
        law("perhaps CONDITION ?: none", "y:l", NONE);
        law("perhaps CONDITION ?: one", "y:l=1?f", NONE);
        law("a SUM is no CONDITION", "y:l?f", 3);
        law("a CONDITION, no ?", "y:l=1", 5);
        law("a CONDITION, no ?", "y:l=1;y:f", 5);
        law("a CONDITION, no SUM behind ?", "y:l=1?", 6);
        law("a CONDITION, no SUM behind ?", "y:l=1?;y:f", 6);
        law("a second CONDITION", "y:l=1?f=1?g", 7);
        law("goes on with ( behind its : has a CONDITION", "y:(l)", 4);
        law("goes on with ( behind its : has a CONDITION", "y:(l=1)", 7);
        law("goes on with ( behind its : has a CONDITION", "y:(l=1)?f", NONE);
        law("goes on with ( behind its : has a CONDITION", "y:(l=1)+1", 7);
        law("goes on with ! behind its : has a CONDITION", "y:!l", 4);
        law("goes on with ! behind its : has a CONDITION", "y:!l=1", 6);
        law("goes on with ! behind its : has a CONDITION", "y:!l=1?f", NONE);
        law("goes on with [ behind its : may have none", "y:[l]", NONE);
        law("goes on with [ behind its : may have one", "y:[l]=1?f", NONE);
        law("no CONDITION behind ?", "y:l=1?(f=1)", 6);
        law("no CONDITION behind ?", "y:l=1?!f", 6);
        law("one of = < >: two of them", "y:l<=1?f", 4);
        law("one of = < >: a chain", "y:l=1=1?f", 5);
        law("TRUTHS with | between: none behind it", "y:l=1|?f", 6);
        law("UNITS with & between: none behind it", "y:l=1&?f", 6);
        law("TRUTHS with | between: none ahead of it", "y:|l=1?f", 2);
        law("UNITS with & between: a SUM is none", "y:l=1&f?f", 7);
        law("TERMS with + or - between: none behind it", "y:l+", 4);
        law("TERMS with + or - between: none ahead of it", "y:-l", 2);
        law("ATOMS with * or / between: none behind it", "y:l*", 4);
        law("ATOMS with * or / between: none ahead of it", "y:/l", 2);
        law("[ SUM ]: no ]", "y:[l", 4);
        law("[ SUM ]: no SUM", "y:[]", 3);
        law("[ SUM ]: no [", "y:l]", 3);
        law("[ SUM ]: a CONDITION", "y:[l=1]?f", 4);
        law("( CONDITION ): no )", "y:(l=1?f", 6);
        law("( CONDITION ): no CONDITION", "y:()?f", 3);
        law("( CONDITION ): no (", "y:l=1)?f", 5);
    }

    private static void digitsOfLaws() {
        law("a number (1 to 4 digits): one", "y:1", NONE);
        law("a number (1 to 4 digits): four", "y:9999", NONE);
        law("a number (1 to 4 digits): four", "y:0000", NONE);
        law("a fifth one in a LAW itself", "y:12345", 6);
        law("a fifth one in a LAW itself", "y:00000", 6);
        law("a fifth one in a LAW itself, more behind it", "y:1234567", 6);
        law("a fifth one in a LAW itself, the right side", "y:l=12345?1", 8);
        law("a digit behind a blank is no fifth one", "y:1234 5", 7);
        law("blanks not within numbers", "y:1 2", 4);
        law("no letter behind a number", "y:1l", 3);
        law("no number behind a letter", "y:l1", 3);
    }

    private static void sixWithinOneAnother() {
        String[] opens = {"(", "[", "!"};
        for (String open : opens) {
            for (int many = 5; many <= 8; many++) {
                String close = open.equals("(") ? ")" : open.equals("[") ? "]" : "";
                String text = open.equals("[")
                        ? "y:" + open.repeat(many) + "l" + close.repeat(many)
                        : "y:" + open.repeat(many) + "l=1" + close.repeat(many) + "?f";
                law("at most six of " + open + ", a seventh at it", text, many <= 6 ? NONE : 8);
            }
        }
        law("six of them mixed", "y:!(!(![l]=1))?f", NONE);
        law("a seventh of them mixed at it, [", "y:!(!(![[l]]=1))?f", 8);
        law("a seventh of them mixed at it, !", "y:!(!(!(!l=1)))?f", 8);
        law("a seventh of them mixed at it, (", "y:!(!(!((l=1))))?f", 8);
        law("a seventh of them on the right side", "y:!!!!!!1=[l]?f", 10);
        law("six on the right side", "y:!!!!!1=[l]?f", NONE);
        law("within one another, not beside", "y:!!!!!!l=1&!!!!!!l=1?[[[[[[l]]]]]]", NONE);
        law("within one another, not beside", "y:[[[[[[l]]]]]]+[[[[[[l]]]]]]=[[[[[[1]]]]]]?f", NONE);
        law("within one another, not beside", "y:((((((l=1))))))|((((((l=1))))))?f", NONE);
        law("a seventh of them behind ? at it", "y:l=1?[[[[[[[f]]]]]]]", 12);
        law("a seventh of them in another CLAUSE at it", "y:l;y:[[[[[[[f]]]]]]]", 12);
    }

    private static void blanksOfLaws() {
        law("blanks between all signs",
                "  y  :  !  (  l  =  12  |  [  f  +  1  ]  <  3  &  g  >  2  )  ?  m  *  2  /  3  -  n  ;  y  :  h  ", NONE);
    }

    // ---- promise 8: WORTH and REACH ----

    /** 1 if the CONDITION holds, else 2. LAMP 7, FOG 2, HEIGHT 5, MAST 3, one TOWER, HOUR 0. */
    private static void holds(String sentence, String condition, boolean due) {
        edges.due(8, sentence + ": " + condition, reach("y:" + condition + "?1;y:2"), due ? 1 : 2);
    }

    private static int reach(String law) {
        BlindSpots x = Texts.land("sf2;r5;tm3l7");
        Texts.law(x, law);
        return x.tower(0, 3);
    }

    private static void numbersHeldBehindEachSign() {
        String million = "1000*1000";
        holds("within 1,000,000: as many", million + ">999*1000+999", true);
        holds("within 1,000,000: + one more", million + "+1=" + million, true);
        holds("within 1,000,000: + one less", million + "-1=" + million, false);
        holds("within 1,000,000: up to it", million + "-1+1=" + million, true);
        holds("within 1,000,000: * more", "1001*1000=" + million, true);
        holds("within 1,000,000: * less", "999*1000+999=" + million, false);
        holds("within 1,000,000: * far more", "9999*9999*9999*9999=" + million, true);
        holds("within -1,000,000: - one less", "0-" + million + "-1=0-" + million, true);
        holds("within -1,000,000: one more", "1-" + million + "=0-" + million, false);
        holds("within -1,000,000: * less", "[0-1001]*1000=0-" + million, true);
        holds("within -1,000,000: * far less", "[0-9999]*9999*9999=0-" + million, true);
        holds("within -1,000,000: + less", "[0-" + million + "]+[0-1]=0-" + million, true);
        holds("behind each sign, +", million + "+1-1=" + million, false);
        holds("behind each sign, -", "0-" + million + "-1+1=0-" + million, false);
        holds("behind each sign, *", "9999*9999/9999=9999", false);
        holds("behind each sign, *", "9999*9999/9999=100", true);
        holds("behind each sign, -[-]", million + "-[0-" + million + "]=" + million, true);
    }

    private static void divisions() {
        holds("/ cuts towards 0", "7/2=3", true);
        holds("/ cuts towards 0", "8/2=4", true);
        holds("/ cuts towards 0, below 0", "[0-7]/2=0-3", true);
        holds("/ cuts towards 0, by less than 0", "7/[0-2]=0-3", true);
        holds("/ cuts towards 0, both", "[0-7]/[0-2]=3", true);
        holds("/ cuts towards 0, to none", "1/2=0", true);
        holds("/ cuts towards 0, to none", "[0-1]/2=0", true);
        holds("/ by 0 gives 0", "7/0=0", true);
        holds("/ by 0 gives 0", "[0-7]/0=0", true);
        holds("/ by 0 gives 0", "0/0=0", true);
        holds("/ by a SUM of 0 gives 0", "7/[l-7]=0", true);
        holds("/ by the HOUR 0 gives 0", "7/h=0", true);
        holds("from the left", "8/4*2=4", true);
        holds("from the left", "8-4-2=2", true);
        holds("* ahead of +", "2+3*2=8", true);
        holds("[ ahead of *", "[2+3]*2=10", true);
        holds("/ ahead of -", "9-8/2=5", true);
    }

    private static void firstClauseThatHolds() {
        holds("= alike", "l=7", true);
        holds("= one more", "l=8", false);
        holds("< less", "l<8", true);
        holds("< alike", "l<7", false);
        holds("> more", "l>6", true);
        holds("> alike", "l>7", false);
        String[] units = {"1=1", "1<2", "2>1", "1=2", "2<1", "1>2"};
        for (int one = 0; one < units.length; one++) {
            holds("a UNIT", units[one], one < 3);
            holds("! UNIT", "!" + units[one], one >= 3);
            holds("! ! UNIT", "!!" + units[one], one < 3);
            holds("( CONDITION )", "(" + units[one] + ")", one < 3);
            for (int other = 0; other < units.length; other++) {
                holds("UNITS with &", units[one] + "&" + units[other], one < 3 && other < 3);
                holds("TRUTHS with |", units[one] + "|" + units[other], one < 3 || other < 3);
                holds("! of &", "!(" + units[one] + "&" + units[other] + ")", one >= 3 || other >= 3);
                holds("! of |", "!(" + units[one] + "|" + units[other] + ")", one >= 3 && other >= 3);
            }
        }
        holds("& ahead of |", "1=1|1=2&1=2", true);
        holds("& ahead of |", "1=2&1=2|1=1", true);
        holds("( ahead of &", "(1=1|1=2)&1=2", false);
        holds("! of its UNIT alone", "!1=1|1=1", true);
        holds("! of its UNIT alone", "!1=2&1=2", false);
        holds("! of (", "!(1=1&1=2)", true);
        holds("! twice", "!!1=2", false);
        edges.due(8, "the first CLAUSE whose CONDITION holds", reach("y:l=6?1;y:l=7?2;y:l=7?3;y:4"), 2);
        edges.due(8, "or has none", reach("y:l=6?1;y:4;y:l=7?2"), 4);
        edges.due(8, "the last of them", reach("y:l=6?1;y:l=5?2;y:l=7?3"), 3);
        edges.due(8, "0 without", reach("y:l=6?1;y:l=5?2"), 0);
        edges.due(8, "LAMP", reach("y:l"), 7);
        edges.due(8, "FOG now", reach("y:f"), 2);
        edges.due(8, "the HOUR", reach("y:h"), 0);
        edges.due(8, "HEIGHT of its CELL now", reach("y:g"), 5);
        edges.due(8, "MAST now", reach("y:m"), 3);
        edges.due(8, "how many TOWERS there are", reach("y:n"), 1);
        BlindSpots x = Texts.land("t;t;t;t");
        Texts.law(x, "y:n");
        edges.due(8, "how many TOWERS there are, four", Edges.tower(x, 3, 3), 4);
    }

    private static void reachHeld() {
        edges.due(8, "held within 0 .. 9: below", reach("y:0-1"), 0);
        edges.due(8, "held within 0 .. 9: far below", reach("y:0-1000*1000"), 0);
        edges.due(8, "held within 0 .. 9: 0", reach("y:0"), 0);
        edges.due(8, "held within 0 .. 9: 1", reach("y:1"), 1);
        edges.due(8, "held within 0 .. 9: 8", reach("y:8"), 8);
        edges.due(8, "held within 0 .. 9: 9", reach("y:9"), 9);
        edges.due(8, "held within 0 .. 9: 10", reach("y:10"), 9);
        edges.due(8, "held within 0 .. 9: far above", reach("y:1000*1000"), 9);
        edges.due(8, "none at first: its LAMP", Edges.tower(Texts.land("tl0"), 0, 3), 0);
        edges.due(8, "none at first: its LAMP", Edges.tower(Texts.land("tl9"), 0, 3), 9);
    }

    private static void hourModulo24() {
        BlindSpots x = Texts.land("t");
        Texts.law(x, "y:h-15");
        x.hours(22);
        edges.due(8, "the HOUR 22", Edges.tower(x, 0, 3), 7);
        x.hours(1);
        edges.due(8, "the HOUR 23", Edges.tower(x, 0, 3), 8);
        x.hours(1);
        edges.due(8, "the HOUR modulo 24: 24", Edges.tower(x, 0, 3), 0);
        x.hours(23);
        edges.due(8, "the HOUR modulo 24: 47", Edges.tower(x, 0, 3), 8);
        x.hours(1);
        edges.due(8, "the HOUR modulo 24: 48", Edges.tower(x, 0, 3), 0);
    }

    // ---- promises 5 to 9 ----

    private static BlindSpots lawful(int laws) {
        BlindSpots x = Texts.land("sw2h2;tl4");
        for (int k = 0; k < laws; k++) {
            Texts.feed(x, "y:" + k);
            x.text(1);
        }
        return x;
    }

    private static void fourLaws() {
        BlindSpots x = lawful(3);
        Texts.feed(x, "y:3");
        edges.due(5, "LAWS, 4 at most: the fourth", x.text(1), 3);
        edges.due(5, "the TAPE is empty then", x.count(3), 0);
        edges.refused(5, "there are four LAWS", () -> {
            BlindSpots y = lawful(4);
            Texts.feed(y, "y:l");
            return y;
        }, y -> y.text(1), NONE, Edges.NO_STATUS);
        Texts.feed(x, "sw3h3;t");
        edges.due(5, "there are four LAWS, a LAND is taken", x.text(0), 9);
        edges.due(5, "LAWS stay", x.count(2), 4);
        edges.due(5, "a LAW without a LAND: its number", fed("y:l").text(1), 0);
        BlindSpots early = fed("y:6");
        early.text(1);
        early.law(0);
        Texts.feed(early, "t");
        early.text(0);
        edges.due(5, "a LAW that held ahead of the LAND holds", Edges.tower(early, 0, 3), 6);
    }

    private static void textsRefused() {
        edges.refusedEach(5, "no such sort, a LAND", () -> fedOver("sw2h2;t", "t"), (x, sort) -> x.text(sort),
                Edges.outside(0, 1), NONE, Edges.NO_STATUS);
        edges.refusedEach(5, "no such sort, a LAW", () -> fedOver("sw2h2;t", "y:l"), (x, sort) -> x.text(sort),
                Edges.outside(0, 1), NONE, Edges.NO_STATUS);
        edges.refused(5, "a FAULT, an empty TAPE", () -> Texts.land("sw2h2;t"), x -> x.text(0), NONE, Edges.NO_STATUS);
        edges.refused(5, "a FAULT, an empty TAPE", () -> Texts.land("sw2h2;t"), x -> x.text(1), NONE, Edges.NO_STATUS);
        edges.refused(5, "a FAULT, an IMAGE and ACTS stay", () -> {
            BlindSpots x = busy();
            Texts.feed(x, "tx9");
            return x;
        }, x -> x.text(0), NONE, Edges.NO_STATUS);
    }

    private static BlindSpots busy() {
        BlindSpots x = lawful(2);
        x.law(1);
        x.mist(9);
        x.heap(0);
        x.image();
        x.oath(0);
        x.years(3, 8);
        x.given(0, 1, true);
        x.heard(0, 1);
        x.heap(4);
        x.fog(10);
        return x;
    }

    private static void anotherLand() {
        BlindSpots x = busy();
        Texts.feed(x, "sw2h2;t;t");
        edges.due(5, "another LAND: how many CELLS", x.text(0), 4);
        int[] counts = {4, 2, 2, 0, 1, 0, 9, 0, 0, 0, 0};
        String[] names = {"CELLS", "TOWERS", "LAWS stay", "the TAPE is empty then", "which holds stays", "HOUR 0",
            "MIST stays", "GIVEN is gone", "HEARD is gone", "the LOG is gone", "ACTS are gone"};
        for (int what = 0; what < counts.length; what++) {
            edges.due(5, names[what], x.count(what), counts[what]);
        }
        edges.due(5, "STATUS stays", x.status(0), 1);
        edges.due(5, "STATUS stays", x.status(1), 1);
        edges.due(5, "oaths kept", x.most(4), 0);
        edges.due(5, "no IMAGE", x.back(), NONE);
        edges.due(5, "no ACT can be UNDONE", x.undo(), NONE);
        edges.due(5, "no LOG", x.log(0, 0), NONE);
        edges.due(5, "GIVEN is gone", x.heights(1, NONE), 10);
        edges.due(5, "HEARD is gone", x.most(9), 0);
        edges.due(5, "COINS as told", x.rule(2), 20);
        edges.due(5, "which holds stays", Edges.tower(x, 0, 3), 1);
    }

    private static void rules() {
        edges.refusedEach(6, "no such what", () -> Texts.land("sw2h2;t"), (x, what) -> x.rule(what),
                Edges.outside(0, 3), NONE, Edges.NO_STATUS);
        for (int what = 0; what <= 3; what++) {
            edges.due(6, "no LAND, " + what, new BlindSpots().rule(what), NONE);
        }
        BlindSpots x = Texts.land("sk5f3;t");
        x.heap(0);
        x.fog(9);
        edges.due(6, "COINS as now", x.rule(2), 4);
        edges.due(6, "FOG as now", x.rule(3), 9);
        edges.due(6, "WIDE", x.rule(0), 4);
        edges.due(6, "ROWS", x.rule(1), 3);
    }

    private static void heights() {
        BlindSpots x = Texts.land("sw2h2;r12;r34;t");
        edges.due(7, "the first CELL", x.height(0), 1);
        edges.due(7, "the last CELL", x.height(3), 4);
        edges.refusedEach(7, "no such one", () -> Texts.land("sw2h2;r12;r34;t"), (y, cell) -> y.height(cell),
                Edges.outside(0, 3), NONE, Edges.NO_STATUS);
        edges.refusedEach(7, "no such one, the greatest LAND", () -> Texts.land("sw6h5;t"), (y, cell) -> y.height(cell),
                Edges.outside(0, 29), NONE, Edges.NO_STATUS);
        edges.due(7, "the last CELL of the greatest LAND", Texts.land("sw6h5;t").height(29), 0);
        BlindSpots less = Texts.land("sw6h5;t");
        Texts.feed(less, "sw2h2;t");
        less.text(0);
        edges.due(7, "no such one behind a greater LAND", less.height(4), NONE);
    }

    private static void towers() {
        BlindSpots x = Texts.land("sw2h2;t;tx1y1m9l0");
        long[] first = {0, 2, 9, 9, 0, 4};
        long[] last = {3, 9, 0, 0, 0, 1};
        for (int what = 0; what <= 5; what++) {
            edges.due(8, "the first TOWER, " + what, Edges.tower(x, 0, what), first[what]);
            edges.due(8, "the last TOWER, " + what, Edges.tower(x, 1, what), last[what]);
            int its = what;
            edges.refusedEach(8, "no such ones: a TOWER, " + what, () -> Texts.land("sw2h2;t;tx1y1m9l0"),
                    (y, tower) -> Edges.tower(y, tower, its), Edges.outside(0, 1), Edges.THROWN, Edges.NO_STATUS);
            edges.due(8, "no such ones: no LAND, " + what, Edges.tower(new BlindSpots(), 0, what), Edges.THROWN);
        }
        edges.refusedEach(8, "no such ones: of a TOWER", () -> Texts.land("sw2h2;t"),
                (y, what) -> Edges.tower(y, 0, what), Edges.outside(0, 5), Edges.THROWN, Edges.NO_STATUS);
        edges.due(8, "the fourth TOWER", Edges.tower(Texts.land("t;t;t;tx3"), 3, 0), 3);
        edges.due(8, "no such ones: a fifth TOWER", Edges.tower(Texts.land("t;t;t;t"), 4, 0), Edges.THROWN);
        BlindSpots broken = Texts.land("t;t;t;t");
        for (int tower = 0; tower < 4; tower++) {
            edges.due(8, "whether its oath is BROKEN: 0", Edges.tower(broken, tower, 4), 0);
            broken.oath(tower);
            edges.due(8, "whether its oath is BROKEN: 1", Edges.tower(broken, tower, 4), 1);
        }
        broken.oath(2);
        edges.due(8, "whether its oath is BROKEN: kept again", Edges.tower(broken, 2, 4), 0);
        edges.due(8, "whether its oath is BROKEN: the next one's still is", Edges.tower(broken, 3, 4), 1);
        edges.due(8, "how many CELLS: none", Edges.tower(Texts.land("sf1;t"), 0, 5), 0);
        edges.due(8, "how many CELLS: all of the greatest LAND", Edges.tower(Texts.land("sw6h5;t"), 0, 5), 30);
    }

    private static void lawThatHolds() {
        BlindSpots x = lawful(4);
        edges.due(9, "none holds by itself", x.count(4), NONE);
        edges.yes(9, "the first", x.law(0));
        edges.due(9, "the first holds", Edges.tower(x, 0, 3), 0);
        edges.yes(9, "the last", x.law(3));
        edges.due(9, "the last holds", Edges.tower(x, 0, 3), 3);
        edges.yes(9, "it holds already", x.law(3));
        edges.yes(9, "NONE: none", x.law(NONE));
        edges.due(9, "none holds", x.count(4), NONE);
        edges.due(9, "none holds: its LAMP", Edges.tower(x, 0, 3), 4);
        edges.refusedEach(9, "no such one", () -> {
            BlindSpots y = lawful(4);
            y.law(2);
            return y;
        }, (y, law) -> Edges.of(y.law(law)), Edges.outside(NONE, 3), 0, Edges.NO_STATUS);
        edges.refusedEach(9, "no such one, one LAW", () -> lawful(1), (y, law) -> Edges.of(y.law(law)),
                Edges.outside(NONE, 0), 0, Edges.NO_STATUS);
        edges.refusedEach(9, "no such one, no LAW", BlindSpots::new, (y, law) -> Edges.of(y.law(law)),
                Edges.outside(NONE, NONE), 0, Edges.NO_STATUS);
        edges.yes(9, "NONE without a LAW", new BlindSpots().law(NONE));
    }
}
