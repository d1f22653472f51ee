/** Part 4 of the document, by its bounds: kinds, THE TRACE, images, all read anew. */
public final class KindBoundsTest {
    private static final Check CHECK = new Check();
    private static final int BAD = WovenRoads.BAD, STATE = WovenRoads.STATE, NO = WovenRoads.NO;
    private static final int[] TRACES = {1, 11, 101, 1011, 10101, 100001};

    public static void main(String[] args) {
        kindNumbers();
        ratesOfTheLeast();
        ratesOfTheMost();
        ratesBelowZero();
        dreamByPieces();
        traceOfEach();
        traceOfRefused();
        traceGoesOn();
        traceOfMany();
        imageNumbers();
        imageOfNoBolts();
        imagesForThemselves();
        imagesOfTheMost();
        imageIsACopy();
        imageKeptAgain();
        imagesKeepBoltsAlone();
        nothingUndoneBehindBack();
        readAnew();
        readAnewByNothing();
        notReadAnewByAFault();
        objectsForThemselves();
        CHECK.finish("KindBoundsTest");
    }

    // ---- kinds

    private static void kindNumbers() {
        CHECK.told("KINDS of BOLTS: 0 BOLT; 1 LANE, 2 TOLL, 5 DREAM; 3 TRACK; 4 MOTH. NO: BAD");
        WovenRoads x = Check.landOf("g3 2;h1 5;t0;");
        x.begins(4);
        Check.addBolt(x, 0, "11");
        int[] due = {NO, 2, 4, -3, 8, -2, 3, NO};
        for (int kind = -1; kind <= 6; kind++) {
            CHECK.due("rate(" + kind + ", 1)", x.rate(kind, 1), due[kind + 1]);
            CHECK.due("rate(" + kind + ", 2)", x.rate(kind, 2), NO);
            CHECK.due("rate(" + kind + ", -1)", x.rate(kind, -1), NO);
        }
    }

    private static void ratesOfTheLeast() {
        CHECK.told("RATE of a BOLT without CARDS");
        WovenRoads x = new WovenRoads();
        x.begins(0);
        for (int kind = 0; kind <= 5; kind++) {
            CHECK.due("rate(" + kind + ", 0)", x.rate(kind, 0), 0);
        }
        x.begins(5);
        int[] due = {0, 5, 0, 10, 1, 0};
        for (int kind = 0; kind <= 5; kind++) {
            CHECK.due("rate(" + kind + ", 1)", x.rate(kind, 1), due[kind]);
        }
    }

    private static void ratesOfTheMost() {
        CHECK.told("RATE of a BOLT of 12 CARDS, the last of four, on the last CELL");
        WovenRoads x = Check.landOf("g5 4;t0;t4;t15;t2;");
        x.begins(0);
        x.begins(0);
        x.begins(0);
        Check.addBolt(x, 19, "313131313131");
        int[] due = {12, 31, 12, 62, 15, 16};
        for (int kind = 0; kind <= 5; kind++) {
            CHECK.due("rate(" + kind + ", 3)", x.rate(kind, 3), due[kind]);
        }
    }

    private static void ratesBelowZero() {
        CHECK.told("TOLL up less UP; NO: What none is, where a number may be below 0");
        WovenRoads x = Check.landOf("h1 9;");
        Check.addBolt(x, 0, "131313131313");
        CHECK.due("TOLL", x.rate(2, 0), 12 - 54);
        CHECK.due("MOTH", x.rate(4, 0), 12 - 54);
        x.rain();
        CHECK.due("down was lost", x.rate(2, 0), 11 - 54);
        WovenRoads y = Check.landOf("h1 2;");
        Check.addBolt(y, 0, "1");
        CHECK.due("TOLL is as BAD is, and good", y.rate(2, 0), -1);
        CHECK.due("its trace", y.trace(), 101);
    }

    private static void dreamByPieces() {
        CHECK.told("DREAM up, and PIECES");
        String towns = "g5 4;";
        String[] more = {"t0;", "t4;", "t15;", "t19;", ""};
        for (int n = 0; n <= 4; n++) {
            WovenRoads x = Check.landOf(towns);
            Check.addBolt(x, 6, "12");
            CHECK.due("with " + n + " towns", x.rate(5, 0), 2 + n);
            Check.addBolt(x, 0, "1111");
            CHECK.due("with 0 and 4 joined", x.rate(5, 0), 2 + (n > 1 ? n - 1 : n));
            towns += more[n];
        }
    }

    // ---- the trace

    private static void traceOfEach() {
        CHECK.told("numbers in brackets are added to THE TRACE, 0 at first, as often as rate() asks that body: each once");
        for (int kind = 0; kind <= 5; kind++) {
            WovenRoads x = new WovenRoads();
            x.begins(0);
            CHECK.due("0 at first", x.trace(), 0);
            x.rate(kind, 0);
            CHECK.due("trace of " + kind, x.trace(), TRACES[kind]);
            x.rate(kind, 0);
            CHECK.due("trace of " + kind + " twice", x.trace(), 2 * TRACES[kind]);
        }
    }

    private static void traceOfRefused() {
        CHECK.told("Refused, and nothing changes: no trace");
        WovenRoads x = new WovenRoads();
        for (int kind = 0; kind <= 5; kind++) {
            CHECK.due("no bolt", x.rate(kind, 0), NO);
        }
        x.begins(0);
        for (int kind : new int[] {-1, 6, Integer.MIN_VALUE, Integer.MAX_VALUE}) {
            CHECK.due("no kind", x.rate(kind, 0), NO);
        }
        for (int kind = 0; kind <= 5; kind++) {
            CHECK.due("no such bolt", x.rate(kind, 1), NO);
            CHECK.due("no such bolt", x.rate(kind, -1), NO);
        }
        CHECK.due("trace", x.trace(), 0);
    }

    private static void traceGoesOn() {
        CHECK.told("THE TRACE goes on, as behind undo(), back()");
        WovenRoads x = new WovenRoads();
        x.begins(0);
        x.keep(0);
        x.rate(3, 0);
        CHECK.due("trace", x.trace(), 1011);
        x.undo();
        CHECK.due("behind undo", x.trace(), 1011);
        x.back(0);
        CHECK.due("behind back", x.trace(), 1011);
        x.rate(5, 0);
        CHECK.due("more", x.trace(), 101012);
        CHECK.due("land", x.land(), 0);
        CHECK.due("behind land", x.trace(), 101012);
        x.type('x');
        x.land();
        x.clear();
        CHECK.due("behind a fault", x.trace(), 101012);
        x.begins(0);
        x.rate(0, 0);
        CHECK.due("more", x.trace(), 101013);
        CHECK.due("the bodies alone leave a trace", x.toWeave() + x.now(2) + x.bolt(0, 3) + x.trace(), 101013);
    }

    private static void traceOfMany() {
        CHECK.told("THE TRACE behind 512 calls");
        WovenRoads x = new WovenRoads();
        x.begins(0);
        for (int i = 0; i < 510; i++) {
            x.rate(5, 0);
        }
        CHECK.due("trace", x.trace(), 510L * 100001);
    }

    // ---- images

    private static void imageNumbers() {
        CHECK.told("IMAGES 0, 1; STATE: none was kept");
        WovenRoads x = new WovenRoads();
        x.begins(3);
        for (int image = -1; image <= 2; image++) {
            boolean asTold = image == 0 || image == 1;
            CHECK.due("back(" + image + ") of none", x.back(image), asTold ? STATE : BAD);
        }
        CHECK.due("a refused back leaves what is known", x.now(6), 1);
        for (int image = -1; image <= 2; image++) {
            boolean asTold = image == 0 || image == 1;
            CHECK.due("keep(" + image + ")", x.keep(image), asTold ? 1 : BAD);
        }
        for (int image = -1; image <= 2; image++) {
            boolean asTold = image == 0 || image == 1;
            CHECK.due("back(" + image + ")", x.back(image), asTold ? 1 : BAD);
        }
    }

    private static void imageOfNoBolts() {
        CHECK.told("IMAGES .. keep NOW (BOLTS), none, too");
        WovenRoads x = new WovenRoads();
        CHECK.due("keep of no bolts", x.keep(0), 0);
        Check.addBolt(x, 0, "1");
        CHECK.due("back to none", x.back(0), 0);
        CHECK.due("no bolts", x.now(0), 0);
        CHECK.due("no ells", x.now(1), 0);
        CHECK.due("nothing can be undone", x.undo(), STATE);
        CHECK.due("back to none again", x.back(0), 0);
        CHECK.due("the first bolt", x.begins(5), 0);
        CHECK.boltIs(x, 0, "5:");
        CHECK.due("the other was not kept", x.back(1), STATE);
    }

    private static void imagesForThemselves() {
        CHECK.told("IMAGES 0, 1");
        WovenRoads x = Check.landOf("g5 4;");
        Check.addBolt(x, 0, "111123333211");
        Check.addBolt(x, 19, "3");
        Check.addBolt(x, 18, "");
        Check.addBolt(x, 7, "0");
        CHECK.due("keep(1) of four", x.keep(1), 4);
        x.back(1);
        x.turnAbout(0);
        x.rain();
        CHECK.due("keep(0) of four", x.keep(0), 4);
        CHECK.due("back(1)", x.back(1), 4);
        CHECK.boltIs(x, 0, "0:111123333211");
        CHECK.boltIs(x, 1, "19:3");
        CHECK.boltIs(x, 2, "18:");
        CHECK.boltIs(x, 3, "7:0");
        CHECK.due("back(0)", x.back(0), 4);
        CHECK.boltIs(x, 0, "12:33011110333");
        CHECK.boltIs(x, 1, "19:");
        CHECK.boltIs(x, 2, "18:");
        CHECK.boltIs(x, 3, "7:");
        CHECK.due("full", x.begins(0), WovenRoads.FULL);
    }

    private static void imagesOfTheMost() {
        CHECK.told("IMAGES .. keep NOW: four BOLTS of 12 CARDS; so does what may be UNDONE");
        WovenRoads x = Check.landOf("g5 4;");
        for (int b = 0; b < 4; b++) {
            Check.addBolt(x, 5 * b, "131313131311");
        }
        x.keep(0);
        x.keep(1);
        for (int b = 0; b < 4; b++) {
            x.turnAbout(b);
        }
        String turned = " bolts 2:331313131313 7:331313131313 12:331313131313 17:331313131313";
        CHECK.holds("turned about", Unchanged.bolts(x).equals(turned));
        x.rain();
        x.rain();
        x.undo();
        x.undo();
        CHECK.holds("undone", Unchanged.bolts(x).equals(turned));
        String kept = " bolts 0:131313131311 5:131313131311 10:131313131311 15:131313131311";
        for (int image = 0; image < 2; image++) {
            CHECK.due("back(" + image + ")", x.back(image), 4);
            CHECK.holds("image " + image, Unchanged.bolts(x).equals(kept));
        }
    }

    private static void imageIsACopy() {
        CHECK.told("All of that becomes as an IMAGE has it");
        WovenRoads x = Check.landOf("g5 4;");
        Check.addBolt(x, 0, "11");
        x.keep(0);
        for (int i = 0; i < 3; i++) {
            x.weaves(0, 2);
            x.turnAbout(0);
            x.rain();
            x.begins(i);
            CHECK.due("back, time " + i, x.back(0), 1);
            CHECK.boltIs(x, 0, "0:11");
            CHECK.due("its end", x.bolt(0, 1), 2);
            CHECK.due("its roads", x.road(0, 1) + x.road(1, 1) + x.road(2, 2), 2);
        }
        x.weaves(0, 1);
        x.undo();
        CHECK.boltIs(x, 0, "0:11");
    }

    private static void imageKeptAgain() {
        CHECK.told("An IMAGE is kept: the later one");
        WovenRoads x = new WovenRoads();
        Check.addBolt(x, 0, "12");
        x.keep(0);
        x.keep(1);
        x.rain();
        CHECK.due("kept again", x.keep(0), 1);
        x.begins(5);
        CHECK.due("back(0)", x.back(0), 1);
        CHECK.boltIs(x, 0, "0:1");
        CHECK.due("back(1)", x.back(1), 1);
        CHECK.boltIs(x, 0, "0:12");
        x.undo();
        x.begins(2);
        CHECK.due("kept of more", x.keep(1), 2);
        x.undo();
        CHECK.due("undo leaves images", x.back(1), 2);
    }

    private static void imagesKeepBoltsAlone() {
        CHECK.told("IMAGES 0, 1 keep NOW (BOLTS); nothing else");
        WovenRoads x = Starts.busy();
        String looks = Unchanged.looks(x);
        CHECK.due("keep", x.keep(0), 2);
        CHECK.holds("keep changes nothing that is seen", Unchanged.looks(x).equals(looks));
        WovenRoads twin = Starts.busy();
        twin.keep(0);
        CHECK.holds("nor what can be undone", Unchanged.undone(twin).equals(Unchanged.undone(Starts.busy())));
        WovenRoads other = Starts.busy();
        other.keep(0);
        CHECK.holds("nor the other image", Unchanged.image(other, 1).equals(Unchanged.image(Starts.busy(), 1)));
        WovenRoads y = Starts.busy();
        String land = Unchanged.land(y);
        y.back(0);
        CHECK.holds("back leaves land and text", Unchanged.land(y).equals(land));
        CHECK.due("and the trace", y.trace(), 10101);
        CHECK.due("and the text's letters", y.land(), 2);
    }

    private static void nothingUndoneBehindBack() {
        CHECK.told("nothing can be UNDONE behind back()");
        WovenRoads x = Starts.busy();
        CHECK.due("known", x.now(6), 10);
        CHECK.due("back", x.back(1), 2);
        CHECK.due("none is known", x.now(6), 0);
        CHECK.due("undo", x.undo(), STATE);
        CHECK.boltIs(x, 1, "8:10");
        x.rain();
        x.rain();
        CHECK.due("what is done behind it is", x.undo(), 1);
        CHECK.due("back, too", x.undo(), 0);
        CHECK.boltIs(x, 1, "8:10");
        CHECK.due("and no more", x.undo(), STATE);
        for (int i = 0; i < 11; i++) {
            x.turnAbout(0);
        }
        CHECK.due("10 again", x.now(6), 10);
    }

    // ---- read anew

    private static void readAnew() {
        CHECK.told("Read anew: as told (what is not told as at first), no BOLTS, IMAGES are gone, nothing can be UNDONE");
        WovenRoads x = Starts.busy();
        CHECK.due("land", x.land(), 2);
        CHECK.due("w", x.count(0), 2);
        CHECK.due("h", x.count(1), 2);
        CHECK.due("towns", x.count(2), 1);
        CHECK.due("town", x.town(0), 1);
        CHECK.due("no second town", x.town(1), BAD);
        CHECK.due("slope as at first", x.count(3), 9);
        CHECK.due("letters", x.count(4), 0);
        CHECK.due("height as at first", x.height(1), 0);
        CHECK.due("no bolts", x.now(0), 0);
        CHECK.due("no bolt", x.bolt(0, 0), BAD);
        CHECK.due("no roads", x.road(0, 1), 0);
        CHECK.due("no steep", x.now(4), WovenRoads.NONE);
        CHECK.due("none is known", x.now(6), 0);
        CHECK.due("undo", x.undo(), STATE);
        CHECK.due("back(0)", x.back(0), STATE);
        CHECK.due("back(1)", x.back(1), STATE);
        CHECK.due("trace", x.trace(), 10101);
        Check.addBolt(x, 0, "1");
        CHECK.due("held by the new town", x.rain(), 0);
        CHECK.due("kept anew", x.keep(1), 1);
        CHECK.due("the other one is gone still", x.back(0), STATE);
        CHECK.due("back(1)", x.back(1), 1);
    }

    private static void readAnewByNothing() {
        CHECK.told("Read anew, by ITEMS (none, too)");
        WovenRoads x = Starts.busyWith("");
        CHECK.due("land", x.land(), 0);
        String want = Unchanged.looks(new WovenRoads()).replace("trace 0", "trace 10101");
        CHECK.holds("all as at first", Unchanged.looks(x).equals(want));
        CHECK.due("undo", x.undo(), STATE);
        CHECK.due("back(0)", x.back(0), STATE);
        CHECK.due("back(1)", x.back(1), STATE);
        WovenRoads y = Starts.busyWith("  ");
        CHECK.due("land of blanks", y.land(), 0);
        CHECK.holds("all as at first", Unchanged.looks(y).equals(want));
        CHECK.due("land of nothing again", y.land(), 0);
    }

    private static void notReadAnewByAFault() {
        CHECK.told("-10 less FAULT: nothing changes");
        WovenRoads x = Starts.busyWith("g2 2;t1");
        CHECK.due("land", x.land(), -17);
        CHECK.due("image 0", x.back(0), 1);
        CHECK.boltIs(x, 0, "0:1112");
        CHECK.due("image 1", x.back(1), 2);
        CHECK.boltIs(x, 1, "8:10");
        WovenRoads y = Starts.busyWith("g2 2;t1");
        y.land();
        CHECK.due("undo", y.undo(), 9);
        CHECK.boltIs(y, 1, "8:10");
    }

    private static void objectsForThemselves() {
        CHECK.told("A new object: As told; flat, no TOWNS");
        WovenRoads first = Starts.busy();
        WovenRoads second = new WovenRoads();
        String busy = Unchanged.looks(Starts.busy());
        String fresh = Unchanged.looks(new WovenRoads());
        CHECK.holds("a new one beside another one", Unchanged.looks(second).equals(fresh));
        CHECK.due("nothing to undo", second.undo(), STATE);
        CHECK.due("no image", second.back(0), STATE);
        second.begins(0);
        second.weaves(0, 1);
        second.rate(5, 0);
        Check.tell(second, "g5 4;t19;m0;");
        CHECK.holds("the first one stays", Unchanged.looks(first).equals(busy));
    }
}
