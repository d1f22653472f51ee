/** Promises 7 to 15: bolts, cards, roads, what is now, and all that is done and undone. */
public final class BoltsTest {
    private static final Check CHECK = new Check();

    public static void main(String[] args) {
        boltsAndCards();
        roads();
        nowOfNothing();
        nowOfBolts();
        leastSlope();
        beginning();
        weaving();
        weavingBySlope();
        fullBolt();
        turning();
        rain();
        undoing();
        nothingStaysBehind();
        tenAreKnown();
        refusedIsNotUndone();
        CHECK.finish("BoltsTest");
    }

    private static void boltsAndCards() {
        WovenRoads x = Check.landOf("g3 3;h1 4;h4 2;h5 7;");
        Check.addBolt(x, 0, "121");
        Check.addBolt(x, 8, "");
        CHECK.due("first cell", x.bolt(0, 0), 0);
        CHECK.due("last cell", x.bolt(0, 1), 5);
        CHECK.due("cards", x.bolt(0, 2), 3);
        CHECK.due("UP", x.bolt(0, 3), 4 + 5);
        CHECK.due("first cell of an empty one", x.bolt(1, 0), 8);
        CHECK.due("last cell of an empty one", x.bolt(1, 1), 8);
        CHECK.due("cards of an empty one", x.bolt(1, 2), 0);
        CHECK.due("UP of an empty one", x.bolt(1, 3), 0);
        CHECK.due("bolt(0, 4)", x.bolt(0, 4), WovenRoads.BAD);
        CHECK.due("bolt(0, -1)", x.bolt(0, -1), WovenRoads.BAD);
        CHECK.due("bolt(2, 0)", x.bolt(2, 0), WovenRoads.BAD);
        CHECK.due("bolt(-1, 0)", x.bolt(-1, 0), WovenRoads.BAD);
        CHECK.due("bolt(MIN, MAX)", x.bolt(Integer.MIN_VALUE, Integer.MAX_VALUE), WovenRoads.BAD);
        CHECK.due("card(0, 0)", x.card(0, 0), 1);
        CHECK.due("card(0, 1)", x.card(0, 1), 2);
        CHECK.due("card(0, 2)", x.card(0, 2), 1);
        CHECK.due("card(0, 3)", x.card(0, 3), WovenRoads.BAD);
        CHECK.due("card(0, -1)", x.card(0, -1), WovenRoads.BAD);
        CHECK.due("card(1, 0)", x.card(1, 0), WovenRoads.BAD);
        CHECK.due("card(2, 0)", x.card(2, 0), WovenRoads.BAD);
        CHECK.due("card(-1, 0)", x.card(-1, 0), WovenRoads.BAD);
        CHECK.due("card(0, MAX)", x.card(0, Integer.MAX_VALUE), WovenRoads.BAD);
    }

    private static void roads() {
        WovenRoads x = Check.landOf("g3 2;");
        Check.addBolt(x, 0, "12");
        int[][] due = {{0, 1, 0, 0}, {0, 0, 1, 1}, {0, 0, 0, 0}, {0, 0, 0, 0}, {1, 0, 0, 0}, {0, 0, 0, 0}};
        for (int c = 0; c < 6; c++) {
            for (int card = 0; card < 4; card++) {
                CHECK.due("road(" + c + ", " + card + ")", x.road(c, card), due[c][card]);
            }
        }
        CHECK.due("road(6, 0)", x.road(6, 0), WovenRoads.BAD);
        CHECK.due("road(-1, 0)", x.road(-1, 0), WovenRoads.BAD);
        CHECK.due("road(0, 4)", x.road(0, 4), WovenRoads.BAD);
        CHECK.due("road(0, -1)", x.road(0, -1), WovenRoads.BAD);
        x.rain();
        CHECK.due("road that the rain took", x.road(1, 2), 0);
        CHECK.due("road that is left", x.road(1, 3), 1);
        Check.addBolt(x, 2, "3");
        Check.addBolt(x, 1, "1");
        x.rain();
        CHECK.due("rain took both", x.road(1, 1), 0);
    }

    private static void nowOfNothing() {
        WovenRoads x = new WovenRoads();
        int[] due = {0, 0, 0, 0, WovenRoads.NONE, 0, 0};
        for (int what = 0; what < due.length; what++) {
            CHECK.due("now(" + what + ")", x.now(what), due[what]);
        }
        CHECK.due("now(7)", x.now(7), WovenRoads.BAD);
        CHECK.due("now(-1)", x.now(-1), WovenRoads.BAD);
    }

    private static void nowOfBolts() {
        WovenRoads x = Check.landOf("g4 3;t0;t2;t11;h5 3;h6 8;");
        Check.addBolt(x, 0, "11");
        Check.addBolt(x, 4, "11");
        Check.addBolt(x, 8, "");
        Check.addBolt(x, 8, "1313");
        CHECK.due("BOLTS", x.now(0), 4);
        CHECK.due("ELLS", x.now(1), 8);
        CHECK.due("PIECES", x.now(2), 2);
        CHECK.due("NOWHERE", x.now(3), 2 + 8);
        CHECK.due("STEEP", x.now(4), 5);
        CHECK.due("may be UNDONE", x.now(6), 10);
        WovenRoads y = Check.landOf("g2 2;t3;");
        Check.addBolt(y, 0, "12");
        Check.addBolt(y, 3, "3");
        Check.addBolt(y, 0, "213");
        CHECK.due("no NOWHERE with a town at the end, the start, between", y.now(3), 0);
        CHECK.due("STEEP of the flat", y.now(4), 0);
        CHECK.due("one town is one PIECE", y.now(2), 1);
        WovenRoads z = Check.landOf("t5;h3 6;");
        Check.addBolt(z, 0, "2");
        CHECK.due("NOWHERE by one ell", z.now(3), 1);
        CHECK.due("STEEP down a column", z.now(4), 6);
        CHECK.due("a road up to the first row", z.road(3, 0), 1);
    }

    private static void leastSlope() {
        CHECK.due("one town", Check.landOf("t0;h1 9;h3 9;").now(5), 0);
        CHECK.due("a way round", Check.landOf("t0;t2;h1 9;").now(5), 0);
        CHECK.due("over the lower", Check.landOf("t0;t2;h1 9;h4 6;").now(5), 6);
        CHECK.due("steps by steps", Check.landOf("t0;t2;h0 2;h1 4;h2 6;").now(5), 2);
        CHECK.due("greatest", Check.landOf("t0;t2;h1 9;h4 9;m0;").now(5), 9);
        WovenRoads x = Check.landOf("t0;t2;h1 9;h4 6;");
        Check.addBolt(x, 0, "11");
        CHECK.due("roads do not matter", x.now(5), 6);
    }

    private static void beginning() {
        WovenRoads x = new WovenRoads();
        CHECK.due("begins(6)", x.begins(6), WovenRoads.BAD);
        CHECK.due("begins(-1)", x.begins(-1), WovenRoads.BAD);
        for (int b = 0; b < 4; b++) {
            CHECK.due("begins " + b, x.begins(5), b);
        }
        CHECK.due("a fifth", x.begins(0), WovenRoads.FULL);
        CHECK.due("a fifth on no cell", x.begins(6), WovenRoads.BAD);
        CHECK.due("BOLTS", x.now(0), 4);
        CHECK.due("may be UNDONE", x.now(6), 4);
    }

    private static void weaving() {
        WovenRoads x = Check.landOf("g3 3;");
        x.begins(4);
        int[] due = {1, 5, 7, 3};
        for (int card = 0; card < 4; card++) {
            CHECK.due("weaves by " + card, x.weaves(0, card), due[card]);
            x.undo();
        }
        CHECK.due("weaves(0, 4)", x.weaves(0, 4), WovenRoads.BAD);
        CHECK.due("weaves(0, -1)", x.weaves(0, -1), WovenRoads.BAD);
        CHECK.due("weaves(1, 0)", x.weaves(1, 0), WovenRoads.BAD);
        CHECK.due("weaves(-1, 0)", x.weaves(-1, 0), WovenRoads.BAD);
        x.begins(0);
        CHECK.due("up off the land", x.weaves(1, 0), WovenRoads.STATE);
        CHECK.due("left off the land", x.weaves(1, 3), WovenRoads.STATE);
        x.begins(8);
        CHECK.due("right off the land", x.weaves(2, 1), WovenRoads.STATE);
        CHECK.due("down off the land", x.weaves(2, 2), WovenRoads.STATE);
        x.begins(3);
        CHECK.due("left off a row's first", x.weaves(3, 3), WovenRoads.STATE);
        CHECK.boltIs(x, 3, "3:");
        CHECK.due("back over the same road", x.weaves(3, 1) + x.weaves(3, 3), 4 + 3);
    }

    private static void weavingBySlope() {
        WovenRoads x = Check.landOf("g3 2;h1 4;h2 9;m4;");
        x.begins(0);
        CHECK.due("as steep as may be", x.weaves(0, 1), 1);
        CHECK.due("too steep up", x.weaves(0, 1), WovenRoads.STATE);
        CHECK.due("down as steep", x.weaves(0, 2), 4);
        x.begins(2);
        CHECK.due("too steep down", x.weaves(1, 3), WovenRoads.STATE);
        WovenRoads y = Check.landOf("g2 2;h1 1;m0;");
        y.begins(0);
        CHECK.due("slope 0", y.weaves(0, 1), WovenRoads.STATE);
        CHECK.due("slope 0, level", y.weaves(0, 2), 2);
    }

    private static void fullBolt() {
        WovenRoads x = new WovenRoads();
        Check.addBolt(x, 0, "131313131313");
        CHECK.due("a card more", x.weaves(0, 1), WovenRoads.FULL);
        CHECK.due("a bend at nothing is told first", x.weaves(0, 0), WovenRoads.STATE);
        CHECK.due("no card is told first", x.weaves(0, 4), WovenRoads.BAD);
        CHECK.due("cards", x.bolt(0, 2), 12);
        CHECK.boltIs(x, 0, "0:131313131313");
    }

    private static void turning() {
        WovenRoads x = Check.landOf("g4 3;h1 5;");
        Check.addBolt(x, 0, "112");
        Check.addBolt(x, 11, "03");
        Check.addBolt(x, 9, "");
        CHECK.due("turnAbout(0)", x.turnAbout(0), 6);
        CHECK.boltIs(x, 0, "6:033");
        CHECK.due("it ends where it began", x.bolt(0, 1), 0);
        CHECK.due("UP the other way", x.bolt(0, 3), 5);
        CHECK.due("turnAbout(1)", x.turnAbout(1), 6);
        CHECK.boltIs(x, 1, "6:12");
        CHECK.due("turnAbout of an empty one", x.turnAbout(2), 9);
        CHECK.boltIs(x, 2, "9:");
        CHECK.due("turned twice", x.turnAbout(0), 0);
        CHECK.boltIs(x, 0, "0:112");
        CHECK.due("turnAbout(3)", x.turnAbout(3), WovenRoads.BAD);
        CHECK.due("turnAbout(-1)", x.turnAbout(-1), WovenRoads.BAD);
        CHECK.due("may be UNDONE", x.now(6), 10);
    }

    private static void rain() {
        WovenRoads x = Check.landOf("g4 3;t3;t1;");
        CHECK.due("rain on nothing", x.rain(), 0);
        Check.addBolt(x, 0, "111");
        Check.addBolt(x, 0, "11");
        Check.addBolt(x, 3, "2");
        Check.addBolt(x, 5, "");
        CHECK.due("rain", x.rain(), 2);
        CHECK.boltIs(x, 0, "0:111");
        CHECK.boltIs(x, 1, "0:1");
        CHECK.boltIs(x, 2, "3:");
        CHECK.boltIs(x, 3, "5:");
        CHECK.due("rain, all held by towns or without ells", x.rain(), 0);
        CHECK.due("bolts stay", x.now(0), 4);
    }

    private static void undoing() {
        WovenRoads x = Check.landOf("g4 3;t3;");
        Check.addBolt(x, 0, "11");
        CHECK.due("turnAbout", x.turnAbout(0), 2);
        CHECK.due("rain", x.rain(), 1);
        CHECK.due("rate", x.rate(0, 0), 1);
        CHECK.due("undo of rain", x.undo(), 4);
        CHECK.boltIs(x, 0, "2:33");
        CHECK.due("trace goes on", x.trace(), 1);
        CHECK.due("undo of turnAbout", x.undo(), 3);
        CHECK.boltIs(x, 0, "0:11");
        CHECK.due("undo of weaves", x.undo(), 2);
        CHECK.boltIs(x, 0, "0:1");
        x.keep(0);
        CHECK.due("undo of weaves", x.undo(), 1);
        CHECK.due("undo of begins", x.undo(), 0);
        CHECK.due("no bolts", x.now(0), 0);
        CHECK.due("none", x.undo(), WovenRoads.STATE);
        CHECK.due("images stay", x.back(0), 1);
        CHECK.boltIs(x, 0, "0:1");
        CHECK.due("none behind back", x.undo(), WovenRoads.STATE);
        x.rain();
        x.rain();
        CHECK.due("a rain by which nothing is lost", x.undo(), 1);
        CHECK.boltIs(x, 0, "0:");
        CHECK.due("a rain by which an ell is lost", x.undo(), 0);
        CHECK.boltIs(x, 0, "0:1");
    }

    /** What an undone or frayed bolt had must not come again with the next one. */
    private static void nothingStaysBehind() {
        WovenRoads x = Check.landOf("g4 3;t11;");
        Check.addBolt(x, 0, "11");
        x.undo();
        x.undo();
        x.undo();
        CHECK.due("begun anew", x.begins(5), 0);
        CHECK.boltIs(x, 0, "5:");
        CHECK.due("ELLS", x.now(1), 0);
        Check.addBolt(x, 0, "11");
        Check.addBolt(x, 8, "1");
        x.undo();
        x.undo();
        CHECK.due("BOLTS", x.now(0), 2);
        x.undo();
        x.undo();
        x.undo();
        CHECK.due("ELLS of those that are left", x.now(1), 0);
        CHECK.due("rain finds nothing", x.rain(), 0);
        CHECK.due("NOWHERE", x.now(3), 0);
        CHECK.due("no road", x.now(4), WovenRoads.NONE);
    }

    private static void tenAreKnown() {
        WovenRoads x = new WovenRoads();
        Check.addBolt(x, 0, "131313131313");
        CHECK.due("may be UNDONE", x.now(6), 10);
        for (int more = 9; more >= 0; more--) {
            CHECK.due("undo", x.undo(), more);
            CHECK.due("cards", x.bolt(0, 2), more + 2);
        }
        CHECK.due("older ones are lost", x.undo(), WovenRoads.STATE);
        CHECK.due("cards stay", x.bolt(0, 2), 2);
        x.turnAbout(0);
        CHECK.due("known anew", x.now(6), 1);
        CHECK.due("undo", x.undo(), 0);
        CHECK.boltIs(x, 0, "0:13");
    }

    private static void refusedIsNotUndone() {
        WovenRoads x = new WovenRoads();
        Check.addBolt(x, 0, "1");
        x.begins(6);
        x.weaves(0, 0);
        x.weaves(0, 4);
        x.turnAbout(1);
        x.undo();
        CHECK.due("only what was done is known", x.now(6), 1);
        CHECK.boltIs(x, 0, "0:");
        x.joined(0, 1);
        x.odds(5, 3, 0);
        x.keep(0);
        CHECK.due("what only looks is not known", x.now(6), 1);
    }
}
