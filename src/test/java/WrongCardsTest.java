/** Promises 21 and 22: which card was wrong, and which looks would tell. */
public final class WrongCardsTest {
    private static final Check CHECK = new Check();

    public static void main(String[] args) {
        wrong();
        wrongBySlope();
        wrongRefused();
        look();
        lookBySlope();
        lookRefused();
        CHECK.finish("WrongCardsTest");
    }

    private static void wrong() {
        WovenRoads x = Check.landOf("g3 3;");
        Check.addBolt(x, 0, "12");
        CHECK.due("right, right", x.wrong(0, 2, 0), 1);
        CHECK.due("right, right", x.wrong(0, 2, 1), 4 + 1);
        CHECK.due("down, down", x.wrong(0, 6, 0), 1);
        CHECK.due("down, down", x.wrong(0, 6, 1), 2);
        CHECK.due("right, left", x.wrong(0, 0, 1), 4 + 3);
        CHECK.due("where it ends now", x.wrong(0, 4, 0), 0);
        CHECK.due("where it ends now", x.wrong(0, 4, 1), WovenRoads.NONE);
        CHECK.due("two cards would be wrong", x.wrong(0, 3, 0), 0);
        CHECK.due("nothing is changed", x.bolt(0, 1), 4);
        WovenRoads y = Check.landOf("g3 3;");
        Check.addBolt(y, 3, "11");
        CHECK.due("either card up", y.wrong(0, 1, 0), 2);
        CHECK.due("the first of both", y.wrong(0, 1, 1), 0);
        CHECK.due("either card down", y.wrong(0, 7, 0), 2);
        CHECK.due("the first of both", y.wrong(0, 7, 1), 2);
        CHECK.due("back again, but not off the land", y.wrong(0, 3, 0), 1);
        CHECK.due("back again", y.wrong(0, 3, 1), 4 + 3);
    }

    private static void wrongBySlope() {
        WovenRoads x = Check.landOf("g3 3;h0 9;m8;");
        Check.addBolt(x, 3, "11");
        CHECK.due("a bend at nothing ahead", x.wrong(0, 1, 0), 1);
        CHECK.due("the other one", x.wrong(0, 1, 1), 4);
        WovenRoads y = Check.landOf("g3 3;h1 9;m8;");
        Check.addBolt(y, 3, "11");
        CHECK.due("a bend at nothing behind", y.wrong(0, 1, 0), 0);
        CHECK.due("none", y.wrong(0, 1, 1), WovenRoads.NONE);
    }

    private static void wrongRefused() {
        WovenRoads x = new WovenRoads();
        CHECK.due("no bolt", x.wrong(0, 0, 0), WovenRoads.BAD);
        x.begins(0);
        CHECK.due("no cards", x.wrong(0, 0, 0), 0);
        CHECK.due("no cards", x.wrong(0, 0, 1), WovenRoads.NONE);
        CHECK.due("wrong(0, 6, 0)", x.wrong(0, 6, 0), WovenRoads.BAD);
        CHECK.due("wrong(0, -1, 0)", x.wrong(0, -1, 0), WovenRoads.BAD);
        CHECK.due("wrong(0, 0, 2)", x.wrong(0, 0, 2), WovenRoads.BAD);
        CHECK.due("wrong(0, 0, -1)", x.wrong(0, 0, -1), WovenRoads.BAD);
        CHECK.due("wrong(-1, 0, 0)", x.wrong(-1, 0, 0), WovenRoads.BAD);
        CHECK.due("wrong(1, 0, 0)", x.wrong(1, 0, 0), WovenRoads.BAD);
    }

    private static void look() {
        WovenRoads x = Check.landOf("g3 3;");
        Check.addBolt(x, 3, "11");
        CHECK.due("behind the first: 0 and 6", x.look(0, 1), 2);
        CHECK.due("behind the second: 1, 7, 3", x.look(0, 2), 3);
        WovenRoads y = Check.landOf("g2 2;");
        Check.addBolt(y, 0, "13");
        CHECK.due("the first can't be another one", y.look(0, 1), 0);
        CHECK.due("the second can be down", y.look(0, 2), 1);
    }

    private static void lookBySlope() {
        WovenRoads x = Check.landOf("g3 3;h1 9;m8;");
        Check.addBolt(x, 3, "11");
        CHECK.due("up is a bend at nothing later", x.look(0, 1), 1);
        CHECK.due("7 and 3 are left", x.look(0, 2), 2);
    }

    private static void lookRefused() {
        WovenRoads x = new WovenRoads();
        CHECK.due("no bolt", x.look(0, 1), WovenRoads.BAD);
        x.begins(0);
        CHECK.due("no cards", x.look(0, 1), WovenRoads.BAD);
        CHECK.due("no cards", x.look(0, 0), WovenRoads.BAD);
        x.weaves(0, 1);
        CHECK.due("look(0, 0)", x.look(0, 0), WovenRoads.BAD);
        CHECK.due("look(0, 1)", x.look(0, 1), 1);
        CHECK.due("look(0, 2)", x.look(0, 2), WovenRoads.BAD);
        CHECK.due("look(0, -1)", x.look(0, -1), WovenRoads.BAD);
        CHECK.due("look(1, 1)", x.look(1, 1), WovenRoads.BAD);
        CHECK.due("look(-1, 1)", x.look(-1, 1), WovenRoads.BAD);
    }
}
