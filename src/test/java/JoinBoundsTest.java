/** Part 3 of the document, by its bounds: what is joined, what is to weave, ways, darners, odds, wrong cards. */
public final class JoinBoundsTest {
    private static final Check CHECK = new Check();
    private static final int BAD = WovenRoads.BAD, NONE = WovenRoads.NONE;
    /** Slope 1, and one way alone from 0 to 15: along each row of five and down at its end, 19 ells, 6 up. */
    private static final String SNAKE = "g5 4;h5 2;h6 2;h7 2;h8 2;h9 1;h10 3;h11 4;h12 4;h13 4;h14 4;"
            + "h15 6;h16 6;h17 6;h18 6;h19 5;";
    /** Cells 0 and 9 high by turns. */
    private static final String BOARD = "g5 4;h1 9;h3 9;h5 9;h7 9;h9 9;h11 9;h13 9;h15 9;h17 9;h19 9;";

    public static void main(String[] args) {
        joinedWithItself();
        joinedFromEndToEnd();
        pieces();
        piecesInAnyOrder();
        upOfABolt();
        toWeaveNothing();
        toWeaveNone();
        toWeaveTheMost();
        toWeaveBesideRows();
        toWeaveThoughNoBoltIsLeft();
        toWeaveBehindOthers();
        wayToItself();
        wayNone();
        wayTheLongest();
        seams();
        seamsOfAnyTwo();
        seamsByAnyRoad();
        seamsOnTowns();
        seamsReadAnew();
        wrongWithoutCards();
        wrongOfOneCard();
        wrongOfTwelve();
        wrongOverItself();
        lookNumbers();
        lookOfOneCard();
        looksNotCounted();
        lookOnItself();
        darnersWithoutRoads();
        darnersNone();
        darnersByElls();
        darnersOnColumns();
        darnersOfAsFew();
        oddsWithoutTowns();
        oddsByAllNumbers();
        oddsThatRainIsSure();
        nowhere();
        nowhereThoughJoined();
        steep();
        leastSlope();
        CHECK.finish("JoinBoundsTest");
    }

    private static WovenRoads snake(String more) {
        return Check.landOf(SNAKE + more);
    }

    private static void weaveSnake(WovenRoads x) {
        Check.addBolt(x, 0, "111123333211");
        Check.addBolt(x, 12, "1123333");
    }

    // ---- joined

    private static void joinedWithItself() {
        CHECK.told("JOINED: .. (a CELL with itself is)");
        WovenRoads x = Check.landOf("g5 4;");
        for (int c = 0; c < 20; c++) {
            CHECK.due("joined(" + c + ", itself)", x.joined(c, c), 1);
            CHECK.due("joined with another one", x.joined(c, (c + 1) % 20), 0);
        }
        CHECK.due("joined(20, itself)", x.joined(20, 20), BAD);
        CHECK.due("joined(-1, itself)", x.joined(-1, -1), BAD);
        x.begins(0);
        x.begins(0);
        CHECK.due("bolts without ells join nothing", x.joined(0, 1) + x.joined(0, 5), 0);
    }

    private static void joinedFromEndToEnd() {
        CHECK.told("JOINED: one can go from one CELL to the other one by ROADS");
        WovenRoads x = snake("");
        Check.addBolt(x, 0, "111123333211");
        Check.addBolt(x, 15, "1111033");
        CHECK.due("by 19 ells", x.joined(0, 15), 1);
        CHECK.due("the other way", x.joined(15, 0), 1);
        x.undo();
        CHECK.due("one ell less", x.joined(0, 15), 0);
        CHECK.due("on the one side", x.joined(0, 12), 1);
        CHECK.due("on the other side", x.joined(13, 15), 1);
        x.rain();
        CHECK.due("rain took the last ells", x.joined(0, 12) + x.joined(13, 15), 0);
        CHECK.due("not those ahead of them", x.joined(0, 11) + x.joined(14, 15), 2);
    }

    private static void pieces() {
        CHECK.told("PIECES: how many of TOWNS' parts there are (JOINED ones are one)");
        String[] towns = {"", "t0;", "t0;t4;", "t0;t4;t15;", "t0;t4;t15;t19;"};
        for (int n = 0; n <= 4; n++) {
            WovenRoads x = Check.landOf("g5 4;" + towns[n]);
            CHECK.due("without roads", x.now(2), n);
            Check.addBolt(x, 6, "11");
            CHECK.due("a road without a town is no part", x.now(2), n);
            Check.addBolt(x, 0, "1111");
            CHECK.due("0 and 4 are one", x.now(2), Math.max(n - 1, Math.min(n, 1)));
            Check.addBolt(x, 15, "1111");
            CHECK.due("15 and 19 are one", x.now(2), Math.min(n, n < 3 ? 1 : 2));
            Check.addBolt(x, 2, "222");
            CHECK.due("all are one", x.now(2), Math.min(n, 1));
        }
    }

    private static void piecesInAnyOrder() {
        CHECK.told("PIECES: .. (JOINED ones are one), whichever TOWN is told first");
        String[] orders = {"t0;t1;t5;t6;", "t0;t5;t1;t6;", "t0;t5;t6;t1;", "t6;t0;t1;t5;"};
        for (String order : orders) {
            WovenRoads x = Check.landOf("g5 4;" + order);
            Check.addBolt(x, 0, "1");
            CHECK.due("0 and 1 of " + order, x.now(2), 3);
            Check.addBolt(x, 5, "1");
            CHECK.due("5 and 6, too, of " + order, x.now(2), 2);
            CHECK.due("what is to weave of " + order, x.toWeave(), 1);
            Check.addBolt(x, 6, "0");
            CHECK.due("all of " + order, x.now(2), 1);
        }
    }

    private static void upOfABolt() {
        CHECK.told("UP of a BOLT: how much its ELLS go up in all, from its first CELL on");
        WovenRoads x = Check.landOf(BOARD);
        Check.addBolt(x, 0, "131313131313");
        CHECK.due("the most", x.bolt(0, 3), 6 * 9);
        Check.addBolt(x, 1, "3");
        CHECK.due("down alone", x.bolt(1, 3), 0);
        x.turnAbout(1);
        CHECK.due("up alone", x.bolt(1, 3), 9);
        x.begins(1);
        CHECK.due("without ells", x.bolt(2, 3), 0);
        x.rain();
        CHECK.due("down was lost", x.bolt(0, 3), 6 * 9);
        x.rain();
        CHECK.due("up was lost", x.bolt(0, 3), 5 * 9);
    }

    // ---- to weave

    private static void toWeaveNothing() {
        CHECK.told("TO WEAVE: .. (no TOWNS: 0)");
        CHECK.due("a new object", new WovenRoads().toWeave(), 0);
        CHECK.due("no towns where nothing can be woven", Check.landOf("g2 2;h0 9;h3 9;m8;").toWeave(), 0);
        CHECK.due("one town", Check.landOf("g2 2;t0;").toWeave(), 0);
        CHECK.due("one town where nothing can be woven", Check.landOf("g2 2;h0 9;h3 9;m8;t0;").toWeave(), 0);
        WovenRoads x = Check.landOf("g2 2;t0;t3;");
        CHECK.due("two towns", x.toWeave(), 2);
        Check.addBolt(x, 0, "12");
        CHECK.due("two that are joined", x.toWeave(), 0);
        x.rain();
        CHECK.due("a town holds it", x.toWeave(), 0);
        x.turnAbout(0);
        x.weaves(0, 2);
        CHECK.due("a ring but for one ell", x.toWeave(), 0);
    }

    private static void toWeaveNone() {
        CHECK.told("TO WEAVE: .. not too steep ..; NONE");
        for (int slope = 0; slope <= 9; slope++) {
            for (int step = 0; step <= 9; step++) {
                WovenRoads x = Check.landOf("g2 2;t0;t3;h0 " + step + ";m" + slope + ";");
                CHECK.due("step " + step + " by slope " + slope, x.toWeave(), step <= slope ? 2 : NONE);
            }
        }
        WovenRoads x = Check.landOf("g5 4;t19;t0;t2;t18;h19 9;m8;");
        CHECK.due("one of four is shut in", x.toWeave(), NONE);
        Check.addBolt(x, 0, "11222");
        Check.addBolt(x, 17, "1");
        CHECK.due("the other three are joined", x.toWeave(), NONE);
        CHECK.due("PIECES", x.now(2), 2);
    }

    private static void toWeaveTheMost() {
        CHECK.told("TO WEAVE: the fewest ELLS more");
        CHECK.due("from end to end", snake("t0;t15;m1;").toWeave(), 19);
        CHECK.due("one less", snake("t0;t16;m1;").toWeave(), 18);
        CHECK.due("towns between", snake("t0;t12;t15;t5;m1;").toWeave(), 19);
        CHECK.due("too steep", snake("t0;t15;m0;").toWeave(), NONE);
        CHECK.due("less steep", snake("t0;t15;m2;").toWeave(), 5);
        WovenRoads x = snake("t0;t15;m1;");
        Check.addBolt(x, 0, "111123333211");
        CHECK.due("12 stand", x.toWeave(), 7);
        Check.addBolt(x, 13, "1");
        CHECK.due("one more that does not touch", x.toWeave(), 6);
        Check.addBolt(x, 12, "1");
        Check.addBolt(x, 14, "23333");
        CHECK.due("all stand", x.toWeave(), 0);
        CHECK.due("four in the least land", Check.landOf("g2 2;t0;t1;t2;t3;").toWeave(), 3);
        CHECK.due("four that meet between", Check.landOf("g3 3;t1;t3;t5;t7;").toWeave(), 4);
    }

    private static void toWeaveBesideRows() {
        CHECK.told("between CELLS that are NEXT .. without a ROAD yet");
        CHECK.due("a row's end and the next one's start", Check.landOf("g5 4;t4;t5;").toWeave(), 5);
        CHECK.due("a row's end and the next one's end", Check.landOf("g5 4;t4;t9;").toWeave(), 1);
        CHECK.due("first and last", Check.landOf("g5 4;t0;t19;").toWeave(), 7);
        WovenRoads x = Check.landOf("g5 4;t0;t19;");
        Check.addBolt(x, 0, "1");
        Check.addBolt(x, 0, "1");
        CHECK.due("a road by two bolts is one", x.toWeave(), 6);
        Check.addBolt(x, 16, "11");
        CHECK.due("a road on one of the ways", x.toWeave(), 4);
        Check.addBolt(x, 6, "22");
        CHECK.due("a road on the same way", x.toWeave(), 2);
    }

    private static void toWeaveThoughNoBoltIsLeft() {
        CHECK.told("ELLS more (they need be no BOLT's)");
        WovenRoads x = Check.landOf("g5 4;t0;t4;t15;t19;");
        for (int b = 0; b < 4; b++) {
            CHECK.due("to weave with " + b + " bolts", x.toWeave(), b == 0 ? 10 : 9);
            Check.addBolt(x, 0, "131313131313");
        }
        CHECK.due("no bolt more", x.begins(0), WovenRoads.FULL);
        CHECK.due("no card more", x.weaves(3, 1), WovenRoads.FULL);
        CHECK.due("to weave still", x.toWeave(), 9);
        CHECK.due("more than all bolts could have", snake("t0;t15;m1;").toWeave(), 19);
    }

    /** What a call finds must not lean on what another one left, nor on the land before. */
    private static void toWeaveBehindOthers() {
        CHECK.told("TO WEAVE, LEAST SLOPE: by what is now");
        WovenRoads x = Check.landOf("g2 2;t0;t3;h0 4;m9;");
        CHECK.due("to weave", x.toWeave(), 2);
        CHECK.due("LEAST SLOPE behind it", x.now(5), 4);
        CHECK.due("to weave behind it", x.toWeave(), 2);
        CHECK.due("land", Check.tell(x, "g2 2;t0;t3;h0 4;m3;"), 5);
        CHECK.due("to weave, anew", x.toWeave(), NONE);
        CHECK.due("LEAST SLOPE, anew", x.now(5), 4);
        CHECK.due("to weave behind it, anew", x.toWeave(), NONE);
        CHECK.due("land", Check.tell(x, "g5 4;t0;t19;"), 3);
        CHECK.due("to weave in a greater land", x.toWeave(), 7);
        CHECK.due("land", Check.tell(x, "g2 2;t0;t3;"), 3);
        CHECK.due("to weave in a smaller land", x.toWeave(), 2);
        for (String towns : new String[] {"t0;t15;m1;", "t0;t15;t9;m1;", "t15;t12;t5;t0;m1;"}) {
            WovenRoads most = snake(towns);
            for (int time = 0; time < 3; time++) {
                CHECK.due("the most, time " + time, most.toWeave(), 19);
            }
            Check.tell(most, "g5 4;t0;t4;t15;t19;");
            CHECK.due("less, behind the most", most.toWeave(), 10);
        }
    }

    // ---- ways

    private static void wayToItself() {
        CHECK.told("WAY from a CELL .. to itself: no ELLS");
        WovenRoads x = Check.landOf("g5 4;h3 9;");
        for (int c = 0; c < 20; c++) {
            CHECK.due("way(" + c + ", itself)", x.way(c, c), 0);
        }
        Check.addBolt(x, 2, "1");
        Check.addBolt(x, 4, "3");
        CHECK.due("on a seam", x.way(3, 3), 0);
        CHECK.due("way(20, itself)", x.way(20, 20), BAD);
        CHECK.due("way(-1, itself)", x.way(-1, -1), BAD);
    }

    private static void wayNone() {
        CHECK.told("WAY .. over ROADS ..; NONE");
        WovenRoads x = Check.landOf("g5 4;");
        CHECK.due("no bolts", x.way(0, 1), NONE);
        x.begins(0);
        CHECK.due("no ells", x.way(0, 1), NONE);
        x.weaves(0, 1);
        CHECK.due("one ell", x.way(0, 1), 1);
        CHECK.due("the other way", x.way(1, 0), 1);
        CHECK.due("behind it", x.way(0, 2), NONE);
        CHECK.due("from behind it", x.way(2, 0), NONE);
        Check.addBolt(x, 3, "3");
        CHECK.due("a gap", x.way(0, 3), NONE);
        x.weaves(0, 1);
        CHECK.due("no gap, and a seam on 2", x.way(0, 3), 4);
        x.rain();
        CHECK.due("rain", x.way(0, 1), 1);
        CHECK.due("rain took the others", x.way(0, 2), NONE);
    }

    private static void wayTheLongest() {
        CHECK.told("each ELL 1, and 1 more for each of HEIGHT it goes up, and 1 on a CELL that is come to, if .. (a SEAM)");
        WovenRoads x = snake("");
        weaveSnake(x);
        CHECK.due("19 ells, 6 up, one seam", x.way(0, 15), 26);
        CHECK.due("19 ells, a seam, not up", x.way(15, 0), 20);
        CHECK.due("to the seam", x.way(0, 12), 12 + 4 + 1);
        CHECK.due("from the seam", x.way(12, 15), 7 + 2);
        CHECK.due("from the seam back", x.way(12, 0), 12);
        WovenRoads y = Check.landOf(BOARD);
        Check.addBolt(y, 0, "11112");
        Check.addBolt(y, 9, "33332");
        Check.addBolt(y, 10, "11112");
        Check.addBolt(y, 19, "3333");
        CHECK.due("19 ells, 10 times up, 3 seams", y.way(0, 15), 19 + 90 + 3);
        CHECK.due("19 ells, 9 times up, 3 seams", y.way(15, 0), 19 + 81 + 3);
    }

    private static void seams() {
        CHECK.told("if two BOLTS or more that have ELLS begin or end there (one that does both is one; a SEAM)");
        WovenRoads x = Check.landOf("g3 3;");
        Check.addBolt(x, 3, "1");
        CHECK.due("one ends there", x.way(3, 4), 1);
        x.begins(4);
        CHECK.due("another one without ells", x.way(3, 4), 1);
        x.weaves(1, 1);
        CHECK.due("one ends, one begins", x.way(3, 4), 2);
        CHECK.due("it is left, not come to", x.way(4, 3), 1);
        Check.addBolt(x, 1, "2");
        Check.addBolt(x, 7, "0");
        CHECK.due("four are one seam", x.way(3, 4), 2);
        CHECK.due("over it", x.way(3, 5), 3);
        WovenRoads ring = Check.landOf("g3 3;");
        Check.addBolt(ring, 0, "1230");
        CHECK.due("one that does both is one", ring.way(1, 0), 1);
        ring.begins(0);
        CHECK.due("another one without ells", ring.way(1, 0), 1);
        Check.addBolt(ring, 1, "1");
        CHECK.due("one that passes 1 is none there", ring.way(0, 1), 1);
        CHECK.due("nor where that one ends alone", ring.way(1, 2), 1);
        ring.weaves(1, 2);
        CHECK.due("with a second one on 0 it is a seam", ring.way(1, 0), 2);
        WovenRoads both = Check.landOf("g3 3;");
        Check.addBolt(both, 0, "1");
        Check.addBolt(both, 0, "1");
        CHECK.due("both begin there", both.way(1, 0), 2);
        CHECK.due("both end there", both.way(0, 1), 2);
        both.rain();
        both.undo();
        both.turnAbout(0);
        CHECK.due("one begins, one ends", both.way(0, 1), 2);
    }

    private static void seamsOfAnyTwo() {
        CHECK.told("a SEAM: any two BOLTS");
        for (int one = 0; one < 4; one++) {
            for (int other = 0; other < 4; other++) {
                WovenRoads x = Check.landOf("g5 4;");
                int apart = 5;
                for (int b = 0; b < 4; b++) {
                    boolean there = b == one || b == other;
                    Check.addBolt(x, there ? 0 : apart, "1");
                    apart += there ? 0 : 5;
                }
                CHECK.due(one + " and " + other + " begin on 0", x.way(1, 0), one == other ? 1 : 2);
                CHECK.due(one + " and " + other + " end on 1", x.way(0, 1), one == other ? 1 : 2);
            }
        }
    }

    private static void seamsByAnyRoad() {
        CHECK.told("1 on a CELL that is come to, if two BOLTS .. begin or end there, by whichever ROAD");
        WovenRoads x = Check.landOf("g3 3;");
        Check.addBolt(x, 3, "11");
        Check.addBolt(x, 1, "2");
        CHECK.due("one ends on 4, one goes over it", x.way(3, 5), 2);
        Check.addBolt(x, 7, "0");
        CHECK.due("two end on 4, to it by the third", x.way(3, 4), 2);
        CHECK.due("over it by the third", x.way(3, 5), 3);
        CHECK.due("and back", x.way(5, 3), 3);
        CHECK.due("from one of the two to the third", x.way(1, 5), 3);
        CHECK.due("from it", x.way(4, 5), 1);
    }

    private static void seamsOnTowns() {
        CHECK.told("a SEAM on a CELL with a TOWN, and on a high one");
        WovenRoads x = Check.landOf("g5 2;t2;h2 3;");
        Check.addBolt(x, 0, "11");
        Check.addBolt(x, 4, "33");
        CHECK.due("to the town", x.way(0, 2), 2 + 3 + 1);
        CHECK.due("over the town", x.way(0, 4), 4 + 3 + 1);
        CHECK.due("from the town", x.way(2, 4), 2);
    }

    private static void seamsReadAnew() {
        CHECK.told("Read anew: .. no BOLTS: no SEAM of those before");
        WovenRoads x = Check.landOf("g5 4;");
        for (int b = 0; b < 4; b++) {
            Check.addBolt(x, 0, "1");
        }
        CHECK.due("a seam", x.way(0, 1), 2);
        x.keep(0);
        Check.tell(x, "g5 4;");
        Check.addBolt(x, 0, "1");
        CHECK.due("behind land", x.way(0, 1), 1);
        x.keep(0);
        x.begins(1);
        x.weaves(1, 3);
        CHECK.due("a seam again", x.way(0, 1), 2);
        x.back(0);
        CHECK.due("behind back", x.way(0, 1), 1);
        x.begins(1);
        CHECK.due("begun anew, without ells", x.way(0, 1), 1);
        x.weaves(1, 3);
        x.undo();
        x.undo();
        CHECK.due("behind undo", x.way(0, 1), 1);
    }

    // ---- wrong cards

    private static void wrongWithoutCards() {
        CHECK.told("WRONG: in how many ways; the first (..; NONE)");
        WovenRoads x = Check.landOf("g5 4;");
        x.begins(7);
        for (int c = 0; c < 20; c++) {
            CHECK.due("ways of no cards to " + c, x.wrong(0, c, 0), 0);
            CHECK.due("the first of no ways to " + c, x.wrong(0, c, 1), NONE);
        }
        CHECK.due("wrong(0, 20, 0)", x.wrong(0, 20, 0), BAD);
        CHECK.due("wrong(0, -1, 1)", x.wrong(0, -1, 1), BAD);
    }

    private static void wrongOfOneCard() {
        CHECK.told("4 times which CARD, and the other CARD");
        int[] cells = {1, 5, 7, 3};
        for (int card = 0; card < 4; card++) {
            WovenRoads x = Check.landOf("g3 3;");
            x.begins(0);
            Check.addBolt(x, 4, "" + card);
            for (int other = 0; other < 4; other++) {
                boolean another = other != card;
                CHECK.due(card + " as " + other, x.wrong(1, cells[other], 0), another ? 1 : 0);
                CHECK.due(card + " as " + other + ", the first", x.wrong(1, cells[other], 1), another ? other : NONE);
            }
            CHECK.due("where it began", x.wrong(1, 4, 0), 0);
        }
        WovenRoads corner = Check.landOf("g2 2;");
        Check.addBolt(corner, 0, "1");
        CHECK.due("down is left alone", corner.wrong(0, 2, 1), 2);
        CHECK.due("where it ends", corner.wrong(0, 1, 1), NONE);
    }

    private static void wrongOfTwelve() {
        CHECK.told("just one of its CARDS would be another one (.. none may be a BEND AT NOTHING)");
        WovenRoads x = Check.landOf("g5 4;");
        Check.addBolt(x, 0, "111123333211");
        CHECK.due("the last card left", x.wrong(0, 10, 0), 1);
        CHECK.due("the last card left", x.wrong(0, 10, 1), 47);
        CHECK.due("the first of two up", x.wrong(0, 6, 1), 40);
        CHECK.due("one of two down", x.wrong(0, 16, 0), 2);
        CHECK.due("the first of two down", x.wrong(0, 16, 1), 42);
        CHECK.due("where it ends", x.wrong(0, 12, 0), 0);
        WovenRoads steep = Check.landOf("g5 4;h10 9;m8;");
        Check.addBolt(steep, 0, "11112330");
        CHECK.boltIs(steep, 0, "0:11112330");
        CHECK.due("the end", steep.bolt(0, 1), 2);
        CHECK.due("down for up", steep.wrong(0, 12, 0), 1);
        CHECK.due("down for up", steep.wrong(0, 12, 1), 4 * 7 + 2);
    }

    private static void wrongOverItself() {
        CHECK.told("none may be a BEND AT NOTHING: a CELL that it has been on is none");
        WovenRoads x = Check.landOf("g5 4;");
        Check.addBolt(x, 6, "111");
        CHECK.due("6, 5, 6, 7; 6, 7, 6, 7; 6, 7, 8, 7", x.wrong(0, 7, 0), 3);
        CHECK.due("the first of them", x.wrong(0, 7, 1), 3);
        WovenRoads y = Check.landOf("g5 4;");
        Check.addBolt(y, 6, "11");
        Check.addBolt(y, 6, "2");
        CHECK.due("on its own first cell: 5, 6 and 7, 6", y.wrong(0, 6, 0), 2);
        CHECK.due("where another bolt is", y.wrong(0, 12, 0), 2);
    }

    private static void lookNumbers() {
        CHECK.told("behind i CARDS (1 .. as many as there are)");
        WovenRoads x = Check.landOf("g5 4;");
        x.begins(6);
        for (int n = 0; n <= 12; n++) {
            CHECK.due("look(0, -1) of " + n, x.look(0, -1), BAD);
            CHECK.due("look(0, 0) of " + n, x.look(0, 0), BAD);
            for (int i = 1; i <= 13; i++) {
                CHECK.holds("look(0, " + i + ") of " + n, x.look(0, i) >= 0 == i <= n);
            }
            x.weaves(0, n % 2 == 0 ? 1 : 3);
        }
    }

    private static void lookOfOneCard() {
        CHECK.told("LOOK: .. at how many unlike CELLS it should be");
        int[] first = {0, 1, 4};
        int[] due = {1, 2, 3};
        for (int i = 0; i < 3; i++) {
            WovenRoads x = Check.landOf("g3 3;");
            Check.addBolt(x, first[i], "2");
            CHECK.due("from " + first[i], x.look(0, 1), due[i]);
        }
        WovenRoads shut = Check.landOf("g2 2;h2 5;m4;");
        Check.addBolt(shut, 0, "1");
        CHECK.due("no other card can be", shut.look(0, 1), 0);
        CHECK.due("nor is one wrong", shut.wrong(0, 2, 1), NONE);
    }

    private static void looksNotCounted() {
        CHECK.told("that where it is behind them now is not counted");
        WovenRoads x = Check.landOf("g3 3;");
        Check.addBolt(x, 3, "11");
        CHECK.due("0 and 6, not 4", x.look(0, 1), 2);
        CHECK.due("1, 7, 3, each once", x.look(0, 2), 3);
        WovenRoads last = Check.landOf("g2 2;");
        Check.addBolt(last, 0, "13");
        CHECK.due("the last card alone can be another one", last.look(0, 1), 0);
        CHECK.due("3", last.look(0, 2), 1);
        CHECK.due("BAD behind it", last.look(0, 3), BAD);
    }

    private static void lookOnItself() {
        CHECK.told("that where it is behind them now is not counted: that one alone");
        WovenRoads x = Check.landOf("g5 4;");
        Check.addBolt(x, 6, "123");
        CHECK.due("1, and 11, where it ends", x.look(0, 1), 2);
        CHECK.due("2, 8, 16, and 6, where it begins", x.look(0, 2), 4);
        WovenRoads y = Check.landOf("g5 4;");
        Check.addBolt(y, 6, "11");
        CHECK.due("2, 12, and 6, where it begins", y.look(0, 2), 3);
    }

    // ---- darners

    private static void darnersWithoutRoads() {
        CHECK.told("DARNERS: .. (without a ROAD none: 0)");
        for (int d = 0; d <= 20; d++) {
            CHECK.due("no towns, d " + d, new WovenRoads().darners(d), 0);
            CHECK.due("towns, d " + d, Check.landOf("t0;t1;t2;t3;").darners(d), 0);
        }
        WovenRoads x = Check.landOf("t0;");
        x.begins(4);
        CHECK.due("a bolt without ells", x.darners(0), 0);
        x.weaves(0, 1);
        CHECK.due("a road", x.darners(20), NONE);
        x.rain();
        CHECK.due("none again", x.darners(0), 0);
    }

    private static void darnersNone() {
        CHECK.told("such that each CELL with a ROAD is d .. ELLS at most by ROADS from one of them; NONE");
        WovenRoads x = new WovenRoads();
        Check.addBolt(x, 0, "1");
        CHECK.due("no towns", x.darners(0), NONE);
        CHECK.due("no towns, d 20", x.darners(20), NONE);
        WovenRoads y = Check.landOf("g5 4;t6;");
        Check.addBolt(y, 0, "1");
        CHECK.due("a town beside, not by roads", y.darners(20), NONE);
        Check.addBolt(y, 1, "2");
        CHECK.due("by roads", y.darners(2), 1);
        CHECK.due("too far", y.darners(1), NONE);
        Check.addBolt(y, 18, "1");
        CHECK.due("one road for itself", y.darners(20), NONE);
    }

    private static void darnersByElls() {
        CHECK.told("d (0 .. 20) ELLS at most");
        WovenRoads one = snake("t0;");
        WovenRoads two = snake("t0;t15;");
        weaveSnake(one);
        weaveSnake(two);
        for (int d = 0; d <= 20; d++) {
            CHECK.due("one town, d " + d, one.darners(d), d >= 19 ? 1 : NONE);
            CHECK.due("two towns, d " + d, two.darners(d), d >= 19 ? 1 : d >= 9 ? 3 : NONE);
        }
        CHECK.due("d -1", one.darners(-1), BAD);
        CHECK.due("d 21", one.darners(21), BAD);
        WovenRoads itself = Check.landOf("g2 2;t2;t3;");
        Check.addBolt(itself, 2, "1");
        CHECK.due("d 0, both towns", itself.darners(0), 3);
        CHECK.due("d 1, one", itself.darners(1), 1);
        Check.addBolt(itself, 0, "1");
        CHECK.due("d 0, others", itself.darners(0), NONE);
    }

    private static void darnersOnColumns() {
        CHECK.told("each CELL with a ROAD: either end of each, on rows and on columns");
        int[] first = {0, 0, 14, 14};
        int[] second = {1, 5, 19, 13};
        String[] cards = {"1", "2", "2", "3"};
        for (int i = 0; i < 4; i++) {
            WovenRoads away = Check.landOf("g5 4;t7;");
            Check.addBolt(away, first[i], cards[i]);
            CHECK.due("no town on " + first[i] + ", " + second[i], away.darners(0), NONE);
            for (int town : new int[] {first[i], second[i]}) {
                WovenRoads x = Check.landOf("g5 4;t7;t" + town + ";");
                Check.addBolt(x, first[i], cards[i]);
                CHECK.due("a town on " + town + ", d 0", x.darners(0), NONE);
                CHECK.due("a town on " + town + ", d 1", x.darners(1), 2);
            }
            WovenRoads both = Check.landOf("g5 4;t7;t" + first[i] + ";t" + second[i] + ";");
            Check.addBolt(both, first[i], cards[i]);
            CHECK.due("towns on both, d 0", both.darners(0), 2 + 4);
        }
    }

    private static void darnersOfAsFew() {
        CHECK.told("the fewest TOWNS (bits; of as few the least ..)");
        WovenRoads x = Check.landOf("g5 2;t0;t1;t4;t3;");
        Check.addBolt(x, 0, "1111");
        CHECK.due("6 is less than 9 and 10", x.darners(1), 6);
        CHECK.due("d 2, two still", x.darners(2), 1 + 4);
        CHECK.due("d 3, one", x.darners(3), 2);
        CHECK.due("d 4, the least of one", x.darners(4), 1);
        WovenRoads all = Check.landOf("g2 2;t0;t1;t2;t3;");
        Check.addBolt(all, 0, "123");
        CHECK.due("all four", all.darners(0), 15);
        CHECK.due("fewer go ahead of less", Check.landOf("t0;t1;").darners(0), 0);
        WovenRoads few = Check.landOf("g5 2;t0;t4;t2;");
        Check.addBolt(few, 0, "1111");
        CHECK.due("one high bit is fewer than two low ones", few.darners(2), 4);
    }

    // ---- odds

    private static void oddsWithoutTowns() {
        CHECK.told("that all TOWNS are JOINED behind them: with none or one they are");
        for (String towns : new String[] {"", "t5;"}) {
            WovenRoads x = Check.landOf(towns);
            Check.addBolt(x, 0, "1");
            for (int p = 0; p <= 10; p++) {
                for (int n = 0; n <= 6; n++) {
                    CHECK.due("upper of " + p + ", " + n, x.odds(p, n, 0), 1);
                    CHECK.due("lower of " + p + ", " + n, x.odds(p, n, 1), 1);
                }
            }
        }
    }

    /** Towns 0 and 2 stay joined behind some rains: as many as bolt 0 has ells behind the one to 1. */
    private static WovenRoads heldFor(int rains) {
        WovenRoads x = Check.landOf("g5 4;t0;t2;");
        Check.addBolt(x, 1, "1");
        Check.addBolt(x, 0, "1222111".substring(0, rains + 1));
        return x;
    }

    private static long chooses(int n, int k) {
        long all = 1;
        for (int i = 0; i < k; i++) {
            all = all * (n - i) / (i + 1);
        }
        return all;
    }

    private static long power(long base, int n) {
        long all = 1;
        for (int i = 0; i < n; i++) {
            all *= base;
        }
        return all;
    }

    private static void oddsByAllNumbers() {
        CHECK.told("ODDS by p (0 .. 10), n (0 .. 6) .. in least terms");
        for (int rains = 0; rains <= 6; rains++) {
            WovenRoads x = heldFor(rains);
            for (int p = 0; p <= 10; p++) {
                for (int n = 0; n <= 6; n++) {
                    long upper = 0;
                    for (int wet = 0; wet <= Math.min(n, rains); wet++) {
                        upper += chooses(n, wet) * power(p, wet) * power(10 - p, n - wet);
                    }
                    long lower = power(10, n);
                    long common = lower;
                    while (upper % common != 0 || lower % common != 0) {
                        common--;
                    }
                    String call = "odds(" + p + ", " + n + ", .) held for " + rains;
                    CHECK.due(call + ", upper", x.odds(p, n, 0), upper / common);
                    CHECK.due(call + ", lower", x.odds(p, n, 1), lower / common);
                }
            }
        }
        CHECK.due("the greatest lower number", heldFor(0).odds(1, 6, 1), 1000000);
        CHECK.due("and its upper one", heldFor(0).odds(1, 6, 0), 531441);
    }

    private static void oddsThatRainIsSure() {
        CHECK.told("n nights, each with RAIN by p of 10");
        for (int rains = 0; rains <= 6; rains++) {
            for (int n = 0; n <= 6; n++) {
                WovenRoads x = heldFor(rains);
                CHECK.due("p 0", x.odds(0, n, 0), 1);
                int sure = x.odds(10, n, 0);
                CHECK.due("p 10, lower", x.odds(10, n, 1), 1);
                for (int night = 0; night < n; night++) {
                    x.rain();
                }
                CHECK.due("p 10, as " + n + " rains", sure, x.now(2) == 1 ? 1 : 0);
            }
        }
        WovenRoads apart = Check.landOf("t0;t2;");
        CHECK.due("apart, n 0", apart.odds(0, 0, 0), 0);
        CHECK.due("apart, n 0, lower", apart.odds(0, 0, 1), 1);
        CHECK.due("apart, n 6, lower", apart.odds(5, 6, 1), 1);
    }

    // ---- nowhere, steep, least slope

    private static void nowhere() {
        CHECK.told("NOWHERE: BOLTS (bits) that have ELLS and no TOWN on any of their CELLS");
        WovenRoads x = Check.landOf("g5 4;");
        for (int b = 0; b < 4; b++) {
            x.begins(5 * b);
            CHECK.due("begun", x.now(3), (1 << b) - 1);
            x.weaves(b, 1);
            CHECK.due("woven", x.now(3), (2 << b) - 1);
        }
        CHECK.due("all four", x.now(3), 15);
        x.rain();
        CHECK.due("none has ells", x.now(3), 0);
        WovenRoads y = Check.landOf("g5 4;t2;t7;");
        Check.addBolt(y, 0, "1");
        CHECK.due("a town beside", y.now(3), 1);
        y.weaves(0, 1);
        CHECK.due("a town where it ends", y.now(3), 0);
        y.weaves(0, 1);
        CHECK.due("a town between", y.now(3), 0);
        Check.addBolt(y, 7, "2");
        CHECK.due("a town where it begins", y.now(3), 0);
        Check.addBolt(y, 19, "3");
        CHECK.due("the third one", y.now(3), 4);
        WovenRoads beside = Check.landOf("g5 4;t2;t12;t8;t5;");
        Check.addBolt(beside, 6, "1");
        CHECK.due("towns all around", beside.now(3), 1);
        WovenRoads anew = Check.landOf("g5 4;");
        Check.addBolt(anew, 0, "111");
        Check.tell(anew, "g5 4;t2;");
        Check.addBolt(anew, 0, "1");
        CHECK.due("a town where a bolt of the land before went", anew.now(3), 1);
    }

    private static void nowhereThoughJoined() {
        CHECK.told("NOWHERE: .. no TOWN on any of their CELLS: theirs alone");
        WovenRoads x = Check.landOf("g5 4;t0;t4;");
        Check.addBolt(x, 0, "11");
        Check.addBolt(x, 2, "1");
        CHECK.due("joined to a town by another bolt", x.joined(3, 0), 1);
        CHECK.due("the second one has no town of its own", x.now(3), 2);
        Check.addBolt(x, 4, "3");
        CHECK.due("joined to two towns", x.joined(3, 4), 1);
        CHECK.due("the second one still", x.now(3), 2);
        x.weaves(1, 1);
        CHECK.due("not when it ends on one", x.now(3), 0);
    }

    private static void steep() {
        CHECK.told("STEEP: the greatest step of HEIGHTS on any ROAD; NONE: no ROAD");
        for (int step = 0; step <= 9; step++) {
            WovenRoads x = Check.landOf("g2 2;h3 " + step + ";");
            CHECK.due("no bolt", x.now(4), NONE);
            x.begins(3);
            CHECK.due("no ell", x.now(4), NONE);
            x.weaves(0, 3);
            CHECK.due("down, left", x.now(4), step);
            x.weaves(0, 0);
            CHECK.due("and a level one", x.now(4), step);
            x.turnAbout(0);
            CHECK.due("up", x.now(4), step);
            x.rain();
            CHECK.due("the level one is left", x.now(4), 0);
            x.rain();
            CHECK.due("none is left", x.now(4), NONE);
            Check.addBolt(x, 3, "0");
            CHECK.due("down, up a column", x.now(4), step);
        }
    }

    private static void leastSlope() {
        CHECK.told("LEAST SLOPE: the least SLOPE (0 .. 9) by which TOWNS could be JOINED at all (HEIGHTS alone)");
        CHECK.due("no towns", Check.landOf("g2 2;h0 9;h3 9;").now(5), 0);
        CHECK.due("one town", Check.landOf("g2 2;h0 9;h3 9;t0;").now(5), 0);
        for (int step = 0; step <= 9; step++) {
            for (int slope = 0; slope <= 9; slope++) {
                WovenRoads x = Check.landOf("g2 2;t0;t1;h1 " + step + ";h3 " + step + ";m" + slope + ";");
                CHECK.due("step " + step + ", SLOPE " + slope, x.now(5), step);
            }
        }
        WovenRoads x = snake("t0;t15;m9;");
        CHECK.due("the snake", x.now(5), 1);
        Check.addBolt(x, 0, "222");
        CHECK.due("ROADS do not matter", x.now(5), 1);
        CHECK.due("a town apart from others", Check.landOf("g5 4;t0;t1;t2;t19;h19 7;").now(5), 7);
    }
}
