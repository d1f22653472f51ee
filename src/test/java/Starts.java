/** Objects in the middle of much, for tests that ask what a call changes. All are made anew, with few calls. */
final class Starts {
    private Starts() {
    }

    /**
     * 4 wide, 3 deep, towns on 0, 7, 10, heights 4, 2, 8 on 1, 5, 6, slope 6. Bolt 0 goes 0, 1, 2, 3, 7; bolt 1
     * goes 5, 9, 8. Two images, 10 that may be undone, a trace, a text that would be a good land.
     */
    static WovenRoads busy() {
        WovenRoads x = Check.landOf("g4 3;h1 4;h5 2;h6 8;t0;t7;t10;m6;");
        Check.addBolt(x, 0, "1112");
        x.keep(0);
        Check.addBolt(x, 8, "101");
        x.rain();
        x.keep(1);
        x.turnAbout(1);
        x.rate(4, 1);
        Check.type(x, "g2 2;t1;");
        return x;
    }

    /** As busy(), with that text. */
    static WovenRoads busyWith(String text) {
        WovenRoads x = busy();
        x.clear();
        Check.type(x, text);
        return x;
    }

    /** As busy(), with a third and a fourth bolt. */
    static WovenRoads fullOfBolts() {
        WovenRoads x = busy();
        x.begins(11);
        x.begins(7);
        return x;
    }

    /** As busy(), and bolt 1 has 12 cards: it ends on 8, at the left edge, below 4. */
    static WovenRoads fullOfCards() {
        WovenRoads x = busy();
        for (int i = 0; i < 5; i++) {
            x.weaves(1, 1);
            x.weaves(1, 3);
        }
        return x;
    }

    /** Bolt 0 has 12 cards and ends on 0, in a corner, beside 1, which is too steep; down to 3 it could go. */
    static WovenRoads fullBesideSteep() {
        WovenRoads x = Check.landOf("g3 2;h1 5;m4;t3;");
        Check.addBolt(x, 0, "202020202020");
        x.keep(0);
        Check.addBolt(x, 4, "1");
        x.keep(1);
        Check.type(x, "m1;");
        return x;
    }

    /** A text of 200 letters, a good land of one item, and some bolts. */
    static WovenRoads fullOfLetters() {
        WovenRoads x = new WovenRoads();
        Check.addBolt(x, 0, "12");
        x.keep(1);
        Check.type(x, " ".repeat(197));
        Check.type(x, "t1;");
        return x;
    }

    /** Bolts and a text, and nothing that could be undone or brought back. */
    static WovenRoads withoutPast() {
        WovenRoads x = new WovenRoads();
        Check.addBolt(x, 0, "12");
        x.undo();
        x.undo();
        x.undo();
        Check.type(x, "t4;");
        return x;
    }

    /** Image 1 alone, and nothing to undo behind back(). */
    static WovenRoads behindBack() {
        WovenRoads x = new WovenRoads();
        Check.addBolt(x, 0, "12");
        x.keep(1);
        x.rain();
        x.back(1);
        Check.type(x, "t4;");
        return x;
    }
}
