/** Promises 16 to 20: what is joined, what is to weave, ways, darners, odds. */
public final class JoinedTest {
    private static final Check CHECK = new Check();

    public static void main(String[] args) {
        joined();
        toWeaveWithoutRoads();
        toWeaveWithRoads();
        ways();
        waysOverSeams();
        darners();
        odds();
        oddsOfManyNights();
        CHECK.finish("JoinedTest");
    }

    private static void joined() {
        WovenRoads x = Check.landOf("g4 3;");
        Check.addBolt(x, 0, "12");
        Check.addBolt(x, 6, "3");
        Check.addBolt(x, 8, "1");
        String pieces = "aa...aa.cc..";
        for (int a = 0; a < 12; a++) {
            for (int b = 0; b < 12; b++) {
                boolean one = a == b || pieces.charAt(a) == pieces.charAt(b) && pieces.charAt(a) != '.';
                CHECK.due("joined(" + a + ", " + b + ")", x.joined(a, b), one ? 1 : 0);
            }
        }
        CHECK.due("joined(12, 0)", x.joined(12, 0), WovenRoads.BAD);
        CHECK.due("joined(0, 12)", x.joined(0, 12), WovenRoads.BAD);
        CHECK.due("joined(-1, 0)", x.joined(-1, 0), WovenRoads.BAD);
        CHECK.due("joined(0, -1)", x.joined(0, -1), WovenRoads.BAD);
        WovenRoads far = Check.landOf("g5 4;");
        Check.addBolt(far, 0, "111123333211");
        Check.addBolt(far, 12, "112333");
        CHECK.due("from end to end", far.joined(0, 16), 1);
        CHECK.due("not further", far.joined(0, 15), 0);
    }

    /** Row ends do not meet: cells 3 and 4 are no neighbours. */
    private static void toWeaveWithoutRoads() {
        CHECK.due("no towns", Check.landOf("g4 3;").toWeave(), 0);
        CHECK.due("one town", Check.landOf("g4 3;t7;").toWeave(), 0);
        CHECK.due("two towns", Check.landOf("g4 3;t3;t4;").toWeave(), 4);
        CHECK.due("three towns meet between", Check.landOf("g3 3;t1;t3;t8;").toWeave(), 4);
        CHECK.due("four corners", Check.landOf("g5 4;t0;t4;t15;t19;").toWeave(), 10);
        CHECK.due("around the steep", Check.landOf("g3 3;t0;t2;h1 5;m4;").toWeave(), 4);
        CHECK.due("over what is just not too steep", Check.landOf("g3 3;t0;t2;h1 5;m5;").toWeave(), 2);
        CHECK.due("shut in", Check.landOf("g3 3;t0;t2;h2 9;m8;").toWeave(), WovenRoads.NONE);
        CHECK.due("one shut in alone", Check.landOf("g3 3;t2;h2 9;m8;").toWeave(), 0);
    }

    private static void toWeaveWithRoads() {
        WovenRoads x = Check.landOf("g5 4;t0;t4;t15;t19;");
        Check.addBolt(x, 0, "1111");
        CHECK.due("one side stands", x.toWeave(), 6);
        Check.addBolt(x, 15, "1111");
        CHECK.due("two sides stand", x.toWeave(), 3);
        Check.addBolt(x, 7, "2");
        CHECK.due("a road between helps", x.toWeave(), 2);
        Check.addBolt(x, 2, "222");
        CHECK.due("all joined", x.toWeave(), 0);
        WovenRoads y = Check.landOf("g3 2;t0;t2;");
        Check.addBolt(y, 3, "11");
        CHECK.due("a road aside does not help", y.toWeave(), 2);
        CHECK.due("nothing is changed", y.now(1), 2);
    }

    private static void ways() {
        WovenRoads x = Check.landOf("g3 2;h1 4;h4 1;");
        Check.addBolt(x, 0, "112330");
        CHECK.due("around is sooner", x.way(0, 2), 5);
        CHECK.due("down costs no more", x.way(1, 0), 1);
        CHECK.due("up costs more", x.way(0, 1), 5);
        CHECK.due("to itself", x.way(4, 4), 0);
        CHECK.due("way(6, 0)", x.way(6, 0), WovenRoads.BAD);
        CHECK.due("way(0, 6)", x.way(0, 6), WovenRoads.BAD);
        CHECK.due("way(-1, 0)", x.way(-1, 0), WovenRoads.BAD);
        CHECK.due("way(0, -1)", x.way(0, -1), WovenRoads.BAD);
        WovenRoads y = Check.landOf("g2 2;");
        Check.addBolt(y, 0, "1");
        CHECK.due("no roads there", y.way(0, 2), WovenRoads.NONE);
        CHECK.due("from where no roads are", y.way(3, 0), WovenRoads.NONE);
        CHECK.due("to itself without a road", y.way(3, 3), 0);
    }

    private static void waysOverSeams() {
        WovenRoads x = Check.landOf("g5 2;");
        Check.addBolt(x, 0, "11");
        Check.addBolt(x, 4, "33");
        CHECK.due("a seam between", x.way(0, 4), 5);
        CHECK.due("a seam where it ends", x.way(0, 2), 3);
        CHECK.due("a seam where it starts", x.way(2, 0), 2);
        Check.addBolt(x, 2, "");
        Check.addBolt(x, 1, "");
        CHECK.due("bolts without ells make no seam more", x.way(0, 4), 5);
        x.undo();
        Check.addBolt(x, 2, "2");
        CHECK.due("three are one seam", x.way(0, 4), 5);
        WovenRoads shorts = Check.landOf("g3 2;");
        Check.addBolt(shorts, 0, "1");
        shorts.begins(1);
        CHECK.due("a bolt without ells makes no seam", shorts.way(0, 1), 1);
        Check.addBolt(shorts, 2, "3");
        CHECK.due("a seam of bolts of one ell", shorts.way(0, 2), 3);
        WovenRoads y = Check.landOf("g3 2;");
        Check.addBolt(y, 0, "1203");
        CHECK.due("a bolt that passes is no seam", y.way(0, 4), 2);
        y.undo();
        y.undo();
        Check.addBolt(y, 3, "0123");
        CHECK.due("one that begins and ends there is one", y.way(0, 3), 1);
    }

    private static void darners() {
        WovenRoads x = Check.landOf("g5 2;t0;t2;t4;");
        CHECK.due("no roads", x.darners(0), 0);
        Check.addBolt(x, 0, "1111");
        CHECK.due("d = 0", x.darners(0), WovenRoads.NONE);
        CHECK.due("d = 1", x.darners(1), 7);
        CHECK.due("d = 2", x.darners(2), 2);
        CHECK.due("d = 3", x.darners(3), 2);
        CHECK.due("d = 4, the least of as few", x.darners(4), 1);
        CHECK.due("d = 20", x.darners(20), 1);
        CHECK.due("d = 21", x.darners(21), WovenRoads.BAD);
        CHECK.due("d = -1", x.darners(-1), WovenRoads.BAD);
        Check.addBolt(x, 6, "1");
        CHECK.due("a road that no town reaches", x.darners(20), WovenRoads.NONE);
        WovenRoads y = Check.landOf("g2 2;t3;t0;t1;t2;");
        Check.addBolt(y, 0, "1");
        CHECK.due("towns by their numbers", y.darners(0), 2 + 4);
        CHECK.due("of as few the least", y.darners(1), 2);
        Check.addBolt(y, 2, "1");
        CHECK.due("one on each road", y.darners(1), 1 + 2);
        WovenRoads z = Check.landOf("g2 3;t0;t2;t5;");
        Check.addBolt(z, 0, "22");
        CHECK.due("down a column, the last cell is no town", z.darners(0), WovenRoads.NONE);
        CHECK.due("down a column", z.darners(1), 2);
    }

    private static void dueOdds(WovenRoads x, int p, int n, int upper, int lower) {
        CHECK.due("odds(" + p + ", " + n + ", 0)", x.odds(p, n, 0), upper);
        CHECK.due("odds(" + p + ", " + n + ", 1)", x.odds(p, n, 1), lower);
    }

    private static void odds() {
        dueOdds(new WovenRoads(), 5, 2, 1, 1);
        dueOdds(Check.landOf("t4;"), 10, 6, 1, 1);
        WovenRoads x = Check.landOf("t0;t2;");
        dueOdds(x, 0, 0, 0, 1);
        dueOdds(x, 5, 6, 0, 1);
        Check.addBolt(x, 0, "11");
        dueOdds(x, 10, 6, 1, 1);
        x.weaves(0, 2);
        x.weaves(0, 3);
        dueOdds(x, 10, 6, 1, 1);
        CHECK.due("nothing is changed", x.now(1), 4);
        x.turnAbout(0);
        dueOdds(x, 10, 6, 1, 1);
        CHECK.due("odds(-1, 0, 0)", x.odds(-1, 0, 0), WovenRoads.BAD);
        CHECK.due("odds(11, 0, 0)", x.odds(11, 0, 0), WovenRoads.BAD);
        CHECK.due("odds(0, -1, 0)", x.odds(0, -1, 0), WovenRoads.BAD);
        CHECK.due("odds(0, 7, 0)", x.odds(0, 7, 0), WovenRoads.BAD);
        CHECK.due("odds(0, 0, -1)", x.odds(0, 0, -1), WovenRoads.BAD);
        CHECK.due("odds(0, 0, 2)", x.odds(0, 0, 2), WovenRoads.BAD);
    }

    private static void oddsOfManyNights() {
        WovenRoads any = Check.landOf("g4 2;t0;t2;");
        Check.addBolt(any, 0, "1");
        Check.addBolt(any, 2, "3");
        dueOdds(any, 0, 6, 1, 1);
        dueOdds(any, 3, 0, 1, 1);
        dueOdds(any, 3, 1, 7, 10);
        dueOdds(any, 5, 2, 1, 4);
        dueOdds(any, 4, 3, 27, 125);
        dueOdds(any, 3, 6, 117649, 1000000);
        dueOdds(any, 10, 1, 0, 1);
        WovenRoads second = Check.landOf("g4 2;t0;t5;");
        Check.addBolt(second, 0, "11");
        Check.addBolt(second, 5, "011");
        dueOdds(second, 5, 1, 1, 1);
        dueOdds(second, 5, 2, 3, 4);
        dueOdds(second, 2, 3, 112, 125);
        dueOdds(second, 10, 2, 0, 1);
    }
}
