/** Promises 23 to 25 and 27: bolts by kinds, images, THE TRACE. */
public final class KindsTest {
    private static final Check CHECK = new Check();

    public static void main(String[] args) {
        rates();
        traces();
        ratesRefused();
        images();
        imagesKeepBoltsAlone();
        imagesRefused();
        CHECK.finish("KindsTest");
    }

    private static WovenRoads ratedLand() {
        WovenRoads x = Check.landOf("g4 3;t0;t3;t11;h2 7;h6 9;");
        x.begins(9);
        x.begins(8);
        Check.addBolt(x, 1, "1231");
        return x;
    }

    /** The bolt goes 1, 2, 6, 5, 6: 4 cards, up 7 + 2 + 9. */
    private static void rates() {
        WovenRoads x = ratedLand();
        CHECK.due("BOLT", x.rate(0, 2), 4);
        CHECK.due("LANE", x.rate(1, 2), 4 + 6);
        CHECK.due("TOLL", x.rate(2, 2), 4 - 18);
        CHECK.due("TRACK", x.rate(3, 2), 2 * (4 + 6));
        CHECK.due("MOTH", x.rate(4, 2), 4 - 18 + 2);
        CHECK.due("DREAM", x.rate(5, 2), 4 + 3);
        CHECK.due("DREAM of an empty one", x.rate(5, 0), 3);
        CHECK.due("LANE of an empty one", x.rate(1, 1), 8);
        x.rain();
        CHECK.due("BOLT behind rain", x.rate(0, 2), 3);
        Check.addBolt(x, 0, "111");
        CHECK.due("DREAM by the roads of now", x.rate(5, 0), 2);
    }

    private static void traces() {
        long[] due = {1, 11, 101, 1011, 10101, 100001};
        WovenRoads x = ratedLand();
        long sum = 0;
        for (int kind = 0; kind < due.length; kind++) {
            x.rate(kind, 2);
            sum += due[kind];
            CHECK.due("trace behind kind " + kind, x.trace(), sum);
        }
        x.keep(0);
        x.undo();
        CHECK.due("trace behind undo", x.trace(), sum);
        x.back(0);
        CHECK.due("trace behind back", x.trace(), sum);
        Check.tell(x, "g2 2;");
        CHECK.due("trace behind land", x.trace(), sum);
        CHECK.due("trace is each object's own", new WovenRoads().trace(), 0);
    }

    private static void ratesRefused() {
        WovenRoads x = new WovenRoads();
        CHECK.due("no bolt", x.rate(0, 0), WovenRoads.NO);
        x.begins(0);
        CHECK.due("rate(6, 0)", x.rate(6, 0), WovenRoads.NO);
        CHECK.due("rate(-1, 0)", x.rate(-1, 0), WovenRoads.NO);
        CHECK.due("rate(0, 1)", x.rate(0, 1), WovenRoads.NO);
        CHECK.due("rate(0, -1)", x.rate(0, -1), WovenRoads.NO);
        CHECK.due("rate(5, 4)", x.rate(5, 4), WovenRoads.NO);
        CHECK.due("no trace of that", x.trace(), 0);
    }

    private static void images() {
        WovenRoads x = new WovenRoads();
        CHECK.due("keep of nothing", x.keep(1), 0);
        Check.addBolt(x, 0, "12");
        Check.addBolt(x, 5, "0");
        CHECK.due("keep(0)", x.keep(0), 2);
        x.turnAbout(0);
        x.rain();
        x.begins(1);
        CHECK.due("back(0)", x.back(0), 2);
        CHECK.boltIs(x, 0, "0:12");
        CHECK.boltIs(x, 1, "5:0");
        CHECK.due("no third", x.bolt(2, 0), WovenRoads.BAD);
        CHECK.due("back(1)", x.back(1), 0);
        CHECK.due("no bolts", x.now(0), 0);
        CHECK.due("back(0) again", x.back(0), 2);
        CHECK.boltIs(x, 0, "0:12");
        x.rain();
        CHECK.due("keep(0) anew", x.keep(0), 2);
        x.rain();
        CHECK.due("back(0) to the later", x.back(0), 2);
        CHECK.boltIs(x, 0, "0:1");
        CHECK.boltIs(x, 1, "5:");
    }

    private static void imagesKeepBoltsAlone() {
        WovenRoads x = new WovenRoads();
        Check.addBolt(x, 0, "1");
        x.keep(0);
        CHECK.due("keep leaves what may be UNDONE", x.now(6), 2);
        Check.type(x, "abc");
        CHECK.due("back", x.back(0), 1);
        CHECK.due("THE TEXT stays", x.count(4), 3);
        CHECK.due("nothing can be UNDONE", x.now(6), 0);
        CHECK.due("undo", x.undo(), WovenRoads.STATE);
        x.weaves(0, 1);
        CHECK.due("what is done behind back", x.undo(), 0);
        CHECK.boltIs(x, 0, "0:1");
    }

    private static void imagesRefused() {
        WovenRoads x = new WovenRoads();
        x.begins(0);
        CHECK.due("keep(2)", x.keep(2), WovenRoads.BAD);
        CHECK.due("keep(-1)", x.keep(-1), WovenRoads.BAD);
        CHECK.due("back(2)", x.back(2), WovenRoads.BAD);
        CHECK.due("back(-1)", x.back(-1), WovenRoads.BAD);
        CHECK.due("back(0)", x.back(0), WovenRoads.STATE);
        x.keep(0);
        CHECK.due("back(1)", x.back(1), WovenRoads.STATE);
        CHECK.due("a refused back leaves what may be UNDONE", x.now(6), 1);
    }
}
