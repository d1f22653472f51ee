/** Promises 1 to 6 and 26: a new object, THE TEXT, the land that it tells. */
public final class LandTest {
    private static final Check CHECK = new Check();

    public static void main(String[] args) {
        newObject();
        typing();
        clearing();
        landsTold();
        landTellsAllAnew();
        faultsOfOrder();
        faultsOfNumbers();
        faultsOfLetters();
        faultsOfEnd();
        faultChangesNothing();
        heights();
        towns();
        counts();
        CHECK.finish("LandTest");
    }

    private static void newObject() {
        WovenRoads x = new WovenRoads();
        CHECK.due("w", x.count(0), 3);
        CHECK.due("h", x.count(1), 2);
        CHECK.due("TOWNS", x.count(2), 0);
        CHECK.due("SLOPE", x.count(3), 9);
        CHECK.due("letters", x.count(4), 0);
        for (int c = 0; c < 6; c++) {
            CHECK.due("height " + c, x.height(c), 0);
        }
        CHECK.due("BOLTS", x.now(0), 0);
        CHECK.due("ELLS", x.now(1), 0);
        CHECK.due("may be UNDONE", x.now(6), 0);
        CHECK.due("undo", x.undo(), WovenRoads.STATE);
        CHECK.due("back 0", x.back(0), WovenRoads.STATE);
        CHECK.due("back 1", x.back(1), WovenRoads.STATE);
        CHECK.due("trace", x.trace(), 0);
    }

    private static void typing() {
        WovenRoads x = new WovenRoads();
        CHECK.due("type(-1)", x.type(-1), WovenRoads.BAD);
        CHECK.due("type(256)", x.type(256), WovenRoads.BAD);
        CHECK.due("type(MIN)", x.type(Integer.MIN_VALUE), WovenRoads.BAD);
        CHECK.due("type(MAX)", x.type(Integer.MAX_VALUE), WovenRoads.BAD);
        CHECK.due("type(0)", x.type(0), 1);
        CHECK.due("type(255)", x.type(255), 2);
        for (int i = 3; i <= 200; i++) {
            CHECK.due("type " + i, x.type(32), i);
        }
        CHECK.due("type behind 200", x.type(32), WovenRoads.FULL);
        CHECK.due("type(256) behind 200", x.type(256), WovenRoads.BAD);
        CHECK.due("letters", x.count(4), 200);
    }

    private static void clearing() {
        WovenRoads x = new WovenRoads();
        CHECK.due("clear of nothing", x.clear(), 0);
        Check.type(x, "xyz");
        CHECK.due("clear", x.clear(), 3);
        CHECK.due("letters", x.count(4), 0);
        CHECK.due("land", Check.tell(x, "t4;"), 1);
        CHECK.due("town kept behind clear", x.clear() + x.town(0), 4);
    }

    private static void landsTold() {
        WovenRoads x = new WovenRoads();
        CHECK.due("nothing", Check.tell(x, ""), 0);
        CHECK.due("blanks", Check.tell(x, "    "), 0);
        CHECK.due("least", Check.tell(x, "g2 2;"), 1);
        CHECK.due("cells of the least", x.height(3) + x.height(4), WovenRoads.BAD);
        CHECK.due("greatest", Check.tell(x, "g5 4;h19 9;t19;m0;"), 4);
        CHECK.due("last cell", x.height(19), 9);
        CHECK.due("no cell 20", x.height(20), WovenRoads.BAD);
        CHECK.due("blanks everywhere", Check.tell(x, "  g  2   3 ;  h 5   7  ; t  5 ; m  0  ;  "), 4);
        CHECK.due("w", x.count(0), 2);
        CHECK.due("h", x.count(1), 3);
        CHECK.due("height", x.height(5), 7);
        CHECK.due("town", x.town(0), 5);
        CHECK.due("slope", x.count(3), 0);
        CHECK.due("told again", Check.tell(x, "h1 5;h1 3;h1 8;"), 3);
        CHECK.due("the later one", x.height(1), 8);
        CHECK.due("any order without g", Check.tell(x, "m4;t5;h5 1;t0;"), 4);
        CHECK.due("no blank behind a letter", Check.tell(x, "g3 2;h5 9;"), 2);
        StringBuilder full = new StringBuilder();
        for (int i = 0; i < 40; i++) {
            full.append("h").append(i % 6).append(" ").append(i % 10).append(";");
        }
        CHECK.due("40 items in 200 letters", Check.tell(x, full.toString()), 40);
        CHECK.due("height of the last", x.height(39 % 6), 9);
    }

    private static void landTellsAllAnew() {
        WovenRoads x = Check.landOf("g4 3;h11 6;t3;t7;m2;");
        Check.addBolt(x, 0, "112");
        x.rate(0, 0);
        x.keep(0);
        x.keep(1);
        CHECK.due("may be UNDONE", x.now(6), 4);
        Check.type(x, "h0 1;");
        CHECK.due("land", x.land(), 1);
        CHECK.due("text is empty", x.count(4), 0);
        CHECK.due("w as at first", x.count(0), 3);
        CHECK.due("h as at first", x.count(1), 2);
        CHECK.due("no towns", x.count(2), 0);
        CHECK.due("slope as at first", x.count(3), 9);
        CHECK.due("no bolts", x.now(0), 0);
        CHECK.due("no bolt", x.bolt(0, 0), WovenRoads.BAD);
        CHECK.due("nothing to undo", x.undo(), WovenRoads.STATE);
        CHECK.due("image 0 is gone", x.back(0), WovenRoads.STATE);
        CHECK.due("image 1 is gone", x.back(1), WovenRoads.STATE);
        CHECK.due("trace goes on", x.trace(), 1);
        CHECK.due("greater anew", Check.tell(x, "g5 4;"), 1);
        CHECK.due("old height is gone", x.height(11), 0);
        CHECK.due("height of the text before is gone", x.height(0), 0);
        x.begins(19);
        CHECK.due("nothing told", Check.tell(x, ""), 0);
        CHECK.due("w as at first, too", x.count(0), 3);
        CHECK.due("no bolts, too", x.now(0), 0);
    }

    private static void fault(String text, int place) {
        WovenRoads x = new WovenRoads();
        CHECK.due("land of '" + text + "'", Check.tell(x, text), -10 - place);
        CHECK.due("the text stays: '" + text + "'", x.clear(), text.length());
    }

    private static void faultsOfOrder() {
        fault("m1;g2 2;", 3);
        fault("g2 2;g2 2;", 5);
        fault("  m1 ; m1;", 7);
        fault("t0;t1;t2;t3;t4;", 12);
        fault("t0;t1;t2;t3;t9", 12);
        fault(";", 0);
        fault("t0;;", 3);
        fault("5;", 0);
        fault("g;", 1);
        fault("g2;", 2);
        fault("g2 2 2;", 5);
        fault("h0;", 2);
        fault("h;", 1);
        fault("h0 0 0;", 5);
        fault("hh", 1);
        fault("t;", 1);
        fault("t0 0;", 3);
        fault("t0t1;", 2);
        fault("m;", 1);
        fault("m1 2;", 3);
    }

    private static void faultsOfNumbers() {
        fault("g1 2;", 1);
        fault("g6 2;", 1);
        fault("g2 1;", 3);
        fault("g2 5;", 3);
        fault("g0 2;", 1);
        fault("h6 0;", 1);
        fault("g2 2;h4 0;", 6);
        fault("g5 4;h20 0;", 6);
        fault("h0 10;", 3);
        fault("t6;", 1);
        fault("g5 4;t20;", 6);
        fault("t3;t3;", 4);
        fault("t3;t1;t3;", 7);
        fault("m10;", 1);
        fault("h100 1;", 1);
        fault("h0 100;", 3);
        fault("h0  00;", 4);
        fault("h00 1;", 1);
        fault("h01 1;", 1);
        fault("m09;", 1);
        fault("m000000000000000000000000000000;", 1);
        fault("m99999999999999999999999999999;", 1);
        fault("m4294967296;", 1);
        fault("h12;", 1);
    }

    private static void faultsOfLetters() {
        fault("x", 0);
        fault("  G2 2;", 2);
        fault("t0,", 2);
        fault("t-1;", 1);
        fault("t0; ?", 4);
        fault("\t", 0);
        fault("\0", 0);
        fault("t" + (char) 255 + "0;", 1);
        fault("t6;x", 1);
        fault("t0x;t0;", 2);
    }

    private static void faultsOfEnd() {
        fault("g", 1);
        fault("g2", 2);
        fault("g2 ", 3);
        fault("g2 2", 4);
        fault("h", 1);
        fault("h0", 2);
        fault("h0 1", 4);
        fault("t", 1);
        fault("t0", 2);
        fault("t0;t  ", 6);
        fault("m", 1);
        fault("m1   ", 5);
    }

    private static void faultChangesNothing() {
        WovenRoads x = Check.landOf("g4 3;h11 6;t3;m7;");
        Check.addBolt(x, 0, "112");
        x.keep(1);
        Check.type(x, "g2 2;h0 5;t0;t1;m3;x");
        CHECK.due("fault", x.land(), -10 - 19);
        CHECK.due("letters stay", x.count(4), 20);
        CHECK.due("fault again", x.land(), -10 - 19);
        CHECK.due("w", x.count(0), 4);
        CHECK.due("h", x.count(1), 3);
        CHECK.due("towns", x.count(2), 1);
        CHECK.due("town", x.town(0), 3);
        CHECK.due("slope", x.count(3), 7);
        CHECK.due("height", x.height(0), 0);
        CHECK.due("height of the last", x.height(11), 6);
        CHECK.boltIs(x, 0, "0:112");
        CHECK.due("may be UNDONE", x.now(6), 4);
        CHECK.due("image", x.back(1), 1);
        x.clear();
        CHECK.due("nothing of the fault is left", Check.tell(x, "t5;"), 1);
        CHECK.due("slope behind the fault", x.count(3), 9);
        CHECK.due("height behind the fault", x.height(0), 0);
    }

    private static void heights() {
        WovenRoads x = Check.landOf("g3 2;h0 9;h5 4;");
        CHECK.due("height(0)", x.height(0), 9);
        CHECK.due("height(1)", x.height(1), 0);
        CHECK.due("height(5)", x.height(5), 4);
        CHECK.due("height(6)", x.height(6), WovenRoads.BAD);
        CHECK.due("height(-1)", x.height(-1), WovenRoads.BAD);
        CHECK.due("height(MIN)", x.height(Integer.MIN_VALUE), WovenRoads.BAD);
        CHECK.due("height(MAX)", x.height(Integer.MAX_VALUE), WovenRoads.BAD);
    }

    private static void towns() {
        WovenRoads x = Check.landOf("t5;t0;t3;");
        CHECK.due("town(0)", x.town(0), 5);
        CHECK.due("town(1)", x.town(1), 0);
        CHECK.due("town(2)", x.town(2), 3);
        CHECK.due("town(3)", x.town(3), WovenRoads.BAD);
        CHECK.due("town(-1)", x.town(-1), WovenRoads.BAD);
        CHECK.due("town(MAX)", x.town(Integer.MAX_VALUE), WovenRoads.BAD);
        CHECK.due("no town", new WovenRoads().town(0), WovenRoads.BAD);
        CHECK.due("a fourth", Check.landOf("t5;t0;t3;t1;").town(3), 1);
    }

    private static void counts() {
        WovenRoads x = Check.landOf("g5 3;t1;t2;m6;");
        Check.type(x, "abc");
        CHECK.due("count(0)", x.count(0), 5);
        CHECK.due("count(1)", x.count(1), 3);
        CHECK.due("count(2)", x.count(2), 2);
        CHECK.due("count(3)", x.count(3), 6);
        CHECK.due("count(4)", x.count(4), 3);
        CHECK.due("count(5)", x.count(5), WovenRoads.BAD);
        CHECK.due("count(-1)", x.count(-1), WovenRoads.BAD);
    }
}
