/** The TAPE, FAULTS, LANDS, LAWS and their WORTH (promises 2 to 9). */
public final class TextTest {
    private static final Checks checks = new Checks("TextTest");

    private static final Object[][] LAND_FAULTS = {
        {"", 0}, {"   ", 3}, {"t", -1}, {" t ", -1}, {"t;", 2}, {"t; ", 3}, {";t", 0}, {"t;;t", 2},
        {"s", 1}, {"r", 1}, {"r12", 3}, {"t;s", -1}, {"s;t", -1}, {"r;t", -1}, {"T", 0}, {"tt", 1},
        // numbers
        {"sw", 2}, {"swt", 2}, {"sw4", 3}, {"sw1;t", 2}, {"sw7;t", 2}, {"sw12;t", 3}, {"sw123;t", 4},
        {"sw700;t", 4}, {"sw004;t", 4}, {"sw04;t", -1}, {"s w 4 ; t", -1}, {"sw1 2;t", 2},
        {"sk1 2;t", 4}, {"sk99;t", -1}, {"sk100;t", 4}, {"sh1;t", 2}, {"sh6;t", 2}, {"sh2;t", -1},
        {"sh5;t", -1}, {"sf9;t", -1}, {"sf10;t", 3}, {"sf0k0;t", -1}, {"sw2;t", -1}, {"sw6;t", -1},
        {"tx6", 2}, {"ty5", 2}, {"tm9l9", -1}, {"tm10", 3}, {"tl10", 3}, {"tx100", 4},
        // letters
        {"sw4w4;t", 3}, {"tx1x1", 3}, {"tm1y1m1", 5}, {"sx1;t", 1}, {"tw3", 1}, {"t9", 1}, {"s4", 1},
        {"sf1k2h3w4;t", -1}, {"tl1m2y1x2", -1}, {"sw4f1;tx1;tx2", -1},
        // how many
        {"s;s;t", 2}, {"t;t;t;t", -1}, {"t;t;t;t;t", 8}, {"r;r;r;r;r;r", 10},
        {"sw6;r123456;t", -1}, {"r1234567", 7}, {"r 1 2 3 4 5 6 7", 14}, {"r12x;t", 3},
        // what does not fit together is wrong at the length
        {"t;r12345", 8}, {"r12345;t;sw5", -1}, {"r123456;t;sw5", 13}, {"r;r;r;r;t", 9},
        {"sh4;r;r;r;r;t", -1}, {"r;r;r;r;r;t;sh5", -1}, {"tx4", 3}, {"tx3", -1}, {"ty3", 3}, {"ty2", -1},
        {"sw2;tx2", 7}, {"tx5y4;sw6h5", -1}, {"tx5y4;sw5h5", 11}, {"tx5y4;sw6h4", 11},
        {"sw2h2;tx1y1;tx2", 15}, {"sw2;r123;tx5;z", 13},
        {"t;" + (char) 233, 2}, {"t" + (char) 9, 1}, {"t;t;t;t;r;r;r;r;r;s;sh5", 20},
        {"t;t;t;t;r;r;r;r;r;sh5", -1}, {"t;t;t;t;r;r;r;r;r;sh5;", 22}, {"t;t;t;t;r;r;r;r;r;sh5;r", 22},
    };

    private static final Object[][] LAW_FAULTS = {
        {"", 0}, {"y", 1}, {"y:", 2}, {"y: ", 3}, {"y:l", -1}, {" y : l ; y : 3 ", -1}, {"y:l;", 4},
        {"y:l;y:", 6}, {"y:l;x", 4}, {"y:l;;y:l", 4}, {"x:l", 0}, {"yl", 1}, {"y;l", 1}, {"y:k", 2},
        {"y:l?", 3}, {"y:l=f", 5}, {"y:l=f;", 5}, {"y:l=f?", 6}, {"y:l=f?m", -1}, {"y:l=f=m?m", 5},
        {"y:l=f&", 6}, {"y:l=f&m?1", 7}, {"y:l=f&m", 7}, {"y:l&f", 3}, {"y:l=f?m?m", 7},
        {"y:l=f?m=f", 7}, {"y:l=f?(m)", 6}, {"y:l=f?!m", 6}, {"y:l=f?[m]", -1}, {"y:l=f|m>h&g<n?m", -1},
        {"y:(l)?m", 4}, {"y:(l=f)m", 7}, {"y:(l=f)", 7}, {"y:(l=f)?m", -1}, {"y:(l=f)=m?m", 7},
        {"y:(l=f)+1=2?m", 7}, {"y:l=(f)?m", 4}, {"y:!l=f?m", -1}, {"y:!l?m", 4}, {"y:!(l=f)?m", -1},
        {"y:(l=f?m", 6}, {"y:(l=f]?m", 6}, {"y:l=f)?m", 5}, {"y:[l=f]?m", 4}, {"y:[l]", -1}, {"y:[l]=3?2", -1},
        {"y:[l", 4}, {"y:[l)", 4}, {"y:l]", 3}, {"y:[]", 3}, {"y:()?1", 3},
        {"y:1234", -1}, {"y:12345", 6}, {"y:0000", -1}, {"y:00001", 6}, {"y:1 2", 4}, {"y:ll", 3}, {"y:1l", 3},
        {"y:-1", 2}, {"y:l+", 4}, {"y:l++f", 4}, {"y:l*/f", 4}, {"y:l+f-h*g/m", -1}, {"y:l<>f?1", 4},
        // six within one another, not seven
        {"y:[[[[[[l]]]]]]", -1}, {"y:[[[[[[[l]]]]]]]", 8}, {"y:!!!!!!l=f?m", -1}, {"y:!!!!!!!l=f?m", 8},
        {"y:((((((l=f))))))?m", -1}, {"y:(((((((l=f)))))))?m", 8}, {"y:!(!(![l]=f))?m", -1},
        {"y:!(!(![[l]]=f))?m", 8}, {"y:!(!(!l=[[f]]))?m", 10}, {"y:!!!!!!l=f&!!!!!!l=f?m", -1},
        {"y:!!!!!!l=f|[[[[[[l]]]]]]=f?[[[[[[l]]]]]]", -1}, {"y:!!!!!!l=[f]?1", 10},
        {"y:" + (char) 200, 2},
    };

    // LAMP 7, FOG 2, HEIGHT 5, MAST 3, one TOWER, HOUR 0
    private static final Object[][] WORTHS = {
        {"y:l", 7}, {"y:f", 2}, {"y:h", 0}, {"y:g", 5}, {"y:m", 3}, {"y:n", 1}, {"y:l+9", 9}, {"y:f-l", 0},
        {"y:9", 9}, {"y:10", 9}, {"y:0", 0}, {"y:0009", 9},
        {"y:7/2", 3}, {"y:0-7/2+9", 6}, {"y:[0-7]/2+9", 6}, {"y:7/[0-2]+9", 6}, {"y:7/0+4", 4}, {"y:7/h+4", 4},
        {"y:2+3*2", 8}, {"y:[2+3]*2/2", 5}, {"y:8-3-2", 3}, {"y:8-[3-2]", 7}, {"y:8/4*2", 4}, {"y:2*7/4", 3},
        {"y:8/[4*2]", 1}, {"y:9-2*3", 3},
        {"y:[9999*9999-9999*100]/20", 5}, {"y:[0-9999*9999+9999*100]/20+9", 4},
        {"y:[1000*1000+1000*1000-1000*999]/200", 5}, {"y:[0-1000*1000-9+1000*999]/200+9", 4},
        {"y:1000*1000+1-1000*1000", 0}, {"y:0-1000*1000-1+1000*1000+5", 5}, {"y:1001*1000-1000*1000", 0},
        {"y:1000*1000-1000*999-995", 5},
        {"y:[0-9999]*9999/9999+109", 9}, {"y:[0-9999]*9999/9999+108", 8},
        {"y:l=7?1;y:2", 1}, {"y:l=6?1;y:2", 2}, {"y:l=6?1", 0}, {"y:l<8?1;y:2", 1}, {"y:l<7?1;y:2", 2},
        {"y:l>7?1;y:2", 2}, {"y:l>6?1;y:2", 1}, {"y:1;y:2", 1}, {"y:l=6?1;y:f=2?4;y:g=5?6", 4},
        {"y:1=1|1=1&1=2?3;y:4", 3}, {"y:1=2&1=1|1=1?3;y:4", 3}, {"y:!1=2&1=2?3;y:4", 4},
        {"y:(1=1|1=1)&1=2?3;y:4", 4}, {"y:!(1=1|1=2)?3;y:4", 4}, {"y:!!1=1?3;y:4", 3}, {"y:!1=1|1=1?3;y:4", 3},
        {"y:1+1=2?3;y:4", 3}, {"y:[1+1]*2=4&l-f=g?3;y:4", 3}, {"y: 1 = 1 ? 3 ; y : 4 ", 3},
        {"y:l=6?1;y:g=4?2;y:3", 3}, {"y:1=2?3;y:1=2?4", 0},
    };

    public static void main(String[] args) {
        tape();
        for (Object[] row : LAND_FAULTS) {
            checks.due("4: fault(0) of " + row[0], Texts.fault(new BlindSpots(), 0, (String) row[0]), (Integer) row[1]);
        }
        for (Object[] row : LAW_FAULTS) {
            checks.due("4: fault(1) of " + row[0], Texts.fault(new BlindSpots(), 1, (String) row[0]), (Integer) row[1]);
        }
        sorts();
        landTold();
        landAgain();
        laws();
        worths();
        checks.end();
    }

    private static void tape() {
        BlindSpots x = new BlindSpots();
        checks.due("1: count(3)", x.count(3), 0);
        checks.due("2: feed", x.feed(0x74783179, 0x326D336C, 0x34000000, 0, 0), 9);
        checks.due("2: in that order", x.text(0), 12);
        checks.due("2: in that order", x.tower(0, 0), 9);
        checks.due("2: in that order", x.tower(0, 1), 3);
        checks.due("2: in that order", x.tower(0, 2), 4);
        checks.due("5: the TAPE is empty then", x.count(3), 0);
        checks.due("2: zeros are left out anywhere", x.feed(0x00740000, 0, 0x78000031, 0, 0x00000020), 4);
        checks.due("2: zeros are left out anywhere", x.fault(0), -1);
        checks.due("3: end", x.end(0) ? 1 : 0, 1);
        checks.due("2: bytes above 127", x.feed(-1, 0x80000000, 0, 0, 0), 5);
        checks.due("2: nothing", x.feed(0, 0, 0, 0, 0), 5);
        x.end(0);
        for (int k = 1; k <= 12; k++) {
            checks.due("2: twenty more", x.feed(0x74747474, 0x74747474, 0x74747474, 0x74747474, 0x74747474), 20 * k);
        }
        checks.due("2: more than 240", x.feed(0, 0, 0, 0, 1), -1);
        checks.due("2: it is as it was", x.count(3), 240);
        checks.due("2: none more", x.feed(0, 0, 0, 0, 0), 240);
        checks.yes("3: end(241)", !x.end(241));
        checks.yes("3: end(-1)", !x.end(-1));
        checks.yes("3: end(min)", !x.end(Integer.MIN_VALUE));
        checks.due("3: it is as it was", x.count(3), 240);
        checks.yes("3: end(240)", x.end(240));
        checks.yes("3: end(239)", x.end(239));
        checks.due("2: 241 would be too many", x.feed(0x74740000, 0, 0, 0, 0), -1);
        checks.due("2: none of them came", x.count(3), 239);
        checks.due("2: 240 are not", x.feed(0x74000000, 0, 0, 0, 0), 240);
        checks.yes("3: end(5)", x.end(5));
        checks.due("3: the first five", x.count(3), 5);
        checks.yes("3: end(6)", !x.end(6));
    }

    private static void sorts() {
        BlindSpots x = new BlindSpots();
        checks.due("4: fault(2)", x.fault(2), -2);
        checks.due("4: fault(-1)", x.fault(-1), -2);
        Texts.feed(x, "t");
        checks.due("5: text(2)", x.text(2), -1);
        checks.due("5: text(-1)", x.text(-1), -1);
        checks.due("5: text(1)", x.text(1), -1);
        checks.due("5: the TAPE stays", x.count(3), 1);
        checks.due("5: no LAND", x.count(0), 0);
        checks.due("4: asked twice", x.fault(0), -1);
        checks.due("4: asked twice", x.fault(0), -1);
        checks.due("5: text(0)", x.text(0), 12);
        checks.due("5: text(0) of nothing", x.text(0), -1);
        checks.due("5: the LAND stays", x.count(0), 12);
    }

    private static void landTold() {
        BlindSpots x = Texts.land("t;r1 2;sw3h4k7f2;r;r987;tx2y3m4l5");
        int[] heights = {1, 2, 0, 0, 0, 0, 9, 8, 7, 0, 0, 0};
        for (int cell = 0; cell < 12; cell++) {
            checks.due("7: height(" + cell + ")", x.height(cell), heights[cell]);
        }
        checks.due("7: height(12)", x.height(12), -1);
        checks.due("7: height(-1)", x.height(-1), -1);
        int[] rules = {3, 4, 7, 2};
        for (int what = 0; what < 4; what++) {
            checks.due("6: rule(" + what + ")", x.rule(what), rules[what]);
        }
        checks.due("6: rule(4)", x.rule(4), -1);
        checks.due("6: rule(-1)", x.rule(-1), -1);
        int[] first = {0, 2, 9, 9, 0};
        int[] second = {11, 4, 5, 5, 0};
        for (int what = 0; what < 5; what++) {
            checks.due("8: tower(0, " + what + ")", x.tower(0, what), first[what]);
            checks.due("8: tower(1, " + what + ")", x.tower(1, what), second[what]);
        }
        noTower(x, 2, 0);
        noTower(x, -1, 0);
        noTower(x, 0, 6);
        noTower(x, 0, -1);
        noTower(new BlindSpots(), 0, 0);
        BlindSpots plain = Texts.land("t");
        int[] defaults = {4, 3, 20, 0};
        for (int what = 0; what < 4; what++) {
            checks.due("6: rule(" + what + ") without s", plain.rule(what), defaults[what]);
            checks.due("6: rule(" + what + ") without a LAND", new BlindSpots().rule(what), -1);
        }
        checks.due("7: height(0) without a LAND", new BlindSpots().height(0), -1);
    }

    private static void noTower(BlindSpots x, int tower, int what) {
        int thrown = 0;
        try {
            x.tower(tower, what);
        } catch (java.util.NoSuchElementException e) {
            thrown = 1;
        }
        checks.due("8: tower(" + tower + ", " + what + ") throws", thrown, 1);
    }

    private static void landAgain() {
        BlindSpots x = Texts.land("sk50;t;tx1");
        Texts.law(x, "y:3");
        x.mist(7);
        x.heap(99);
        x.heap(0);
        x.oath(1);
        x.hours(5);
        x.image();
        x.given(0, 0, true);
        x.heard(0, 0);
        Texts.feed(x, "sw5h5f4;r11111;tm1");
        checks.due("5: another LAND", x.text(0), 25);
        int[] counts = {25, 1, 1, 0, 0, 0, 7, 0, 0, 0, 0};
        for (int what = 0; what < counts.length; what++) {
            checks.due("5, 41: count(" + what + ")", x.count(what), counts[what]);
        }
        checks.due("5: STATUS stays", x.status(0), 1);
        checks.due("5: the LAW holds", x.tower(0, 3), 3);
        checks.due("5: no IMAGE", x.back(), -1);
        checks.due("5: no ACT", x.undo(), -1);
        checks.due("5: no LOG", x.log(0, 0), -1);
        checks.due("5: oaths kept", x.most(4), 0);
        checks.due("5: COINS", x.rule(2), 20);
        checks.due("5: FOG", x.rule(3), 4);
        checks.due("5: HEIGHTS", x.height(4), 1);
        checks.due("5: HEIGHTS", x.height(5), 0);
        Texts.feed(x, "z");
        checks.due("5: a FAULT", x.text(0), -1);
        checks.due("5: the LAND stays", x.count(0), 25);
        checks.due("5: the TAPE stays", x.count(3), 1);
    }

    private static void laws() {
        BlindSpots x = Texts.land("tl4");
        checks.yes("9: law(0) without LAWS", !x.law(0));
        checks.yes("9: law(-1)", x.law(-1));
        checks.yes("9: law(-2)", !x.law(-2));
        for (int k = 0; k < 4; k++) {
            Texts.feed(x, "y:" + (k + 5));
            checks.due("5: text(1)", x.text(1), k);
        }
        checks.due("9: none holds by itself", x.count(4), -1);
        checks.due("8: REACH is the LAMP", x.tower(0, 3), 4);
        Texts.feed(x, "y:1");
        checks.due("5: four LAWS", x.text(1), -1);
        checks.due("5: the TAPE stays", x.count(3), 3);
        checks.due("5: four LAWS, no FAULT", x.fault(1), -1);
        for (int k = 0; k < 4; k++) {
            checks.yes("9: law(" + k + ")", x.law(k));
            checks.due("41: the LAW that holds", x.count(4), k);
            checks.due("8: REACH", x.tower(0, 3), k + 5);
        }
        checks.yes("9: law(4)", !x.law(4));
        checks.due("9: it still holds", x.count(4), 3);
        checks.yes("9: law(NONE)", x.law(-1));
        checks.due("8: REACH is the LAMP again", x.tower(0, 3), 4);
        checks.due("41: LAWS", x.count(2), 4);
        BlindSpots early = new BlindSpots();
        checks.due("5: a LAW without a LAND", Texts.law(early, "y:2"), 0);
    }

    private static void worths() {
        for (Object[] row : WORTHS) {
            BlindSpots x = Texts.land("sf2;r5;tm3l7");
            Texts.law(x, (String) row[0]);
            checks.due("8: REACH by " + row[0], x.tower(0, 3), (Integer) row[1]);
        }
        BlindSpots x = Texts.land("t;t;t");
        Texts.law(x, "y:h/3");
        x.hours(23);
        checks.due("8: the HOUR 23", x.tower(0, 3), 7);
        x.hours(1);
        checks.due("8: the HOUR modulo 24", x.tower(0, 3), 0);
        Texts.law(x, "y:n*2+g+m+f");
        checks.due("8: as now", x.tower(2, 3), 8);
        x.heap(0);
        checks.due("8: HEIGHT now", x.tower(2, 3), 9);
        x.dig(0);
        x.moves(2, 3);
        checks.due("8: where it is now", x.tower(2, 3), 8);
        x.mast(2);
        checks.due("8: MAST now", x.tower(2, 3), 9);
        Texts.law(x, "y:f");
        x.fog(5);
        checks.due("8: FOG now", x.tower(1, 3), 5);
    }
}
