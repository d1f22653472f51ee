import java.util.ArrayList;
import java.util.List;

/** Part 2 of the document, by its bounds: bolts and cards, what is done with them, and what may be undone. */
public final class BoltBoundsTest {
    private static final Check CHECK = new Check();
    private static final int BAD = WovenRoads.BAD, STATE = WovenRoads.STATE, FULL = WovenRoads.FULL;
    private static final int NONE = WovenRoads.NONE;

    public static void main(String[] args) {
        fourBolts();
        fifthBoltBehindOthers();
        begun();
        twelveCards();
        thirteenthCardBehindOthers();
        fourFullBolts();
        boltNumbers();
        cardNumbers();
        bendAtNothing();
        roadOfAnyBolt();
        roadsOffTheLand();
        eachRoad();
        turnedByLength();
        turnedInARing();
        rainOnNothing();
        rainOnAllFour();
        rainWhereTownsHold();
        rainByTheLastCellAlone();
        undoneOneByOne();
        undoneThoughNothingBecameAnother();
        notUndone();
        tenAreKnown();
        undoneAndDoneAnew();
        emptyNow();
        ellsOfAll();
        call512();
        CHECK.finish("BoltBoundsTest");
    }

    // ---- bolts and cards

    private static void fourBolts() {
        CHECK.told("BOLTS 0 .. (4 at most)");
        WovenRoads x = new WovenRoads();
        for (int n = 0; n < 4; n++) {
            CHECK.due("BOLTS", x.now(0), n);
            CHECK.due("begins", x.begins(n), n);
            CHECK.due("its first cell", x.bolt(n, 0), n);
        }
        CHECK.due("BOLTS", x.now(0), 4);
        CHECK.due("a fifth", x.begins(4), FULL);
        CHECK.due("no bolt 4", x.bolt(4, 0), BAD);
        CHECK.due("BOLTS stay", x.now(0), 4);
        for (int n = 0; n < 4; n++) {
            CHECK.due("bolt " + n + " stays", x.bolt(n, 0), n);
        }
    }

    private static void fifthBoltBehindOthers() {
        CHECK.told("BOLTS 0 .. (4 at most): FULL as many as there are now");
        WovenRoads x = Starts.fullOfBolts();
        CHECK.due("full", x.begins(0), FULL);
        x.rain();
        CHECK.due("rain takes ells, no bolts", x.begins(0), FULL);
        x.undo();
        CHECK.due("begun is undone", x.undo(), 8);
        CHECK.due("a fourth again", x.begins(3), 3);
        CHECK.due("full again", x.begins(0), FULL);
        CHECK.due("as image 1 has it", x.back(1), 2);
        CHECK.due("a third", x.begins(0), 2);
        CHECK.due("a fourth", x.begins(0), 3);
        CHECK.due("full again", x.begins(0), FULL);
        CHECK.due("read anew", x.land(), 2);
        CHECK.due("the first", x.begins(3), 0);
    }

    private static void begun() {
        CHECK.told("BEGUN: a BOLT more, without CARDS");
        for (int c = 0; c < 20; c++) {
            WovenRoads x = Check.landOf("g5 4;t0;t19;");
            x.begins(7);
            x.weaves(0, 1);
            CHECK.due("begins(" + c + ")", x.begins(c), 1);
            CHECK.due("first cell", x.bolt(1, 0), c);
            CHECK.due("last cell", x.bolt(1, 1), c);
            CHECK.due("CARDS", x.bolt(1, 2), 0);
            CHECK.due("UP", x.bolt(1, 3), 0);
            CHECK.due("no card", x.card(1, 0), BAD);
            CHECK.due("ELLS of all", x.now(1), 1);
            CHECK.boltIs(x, 0, "7:1");
        }
        WovenRoads x = new WovenRoads();
        CHECK.due("two on one cell", x.begins(5) + x.begins(5), 1);
    }

    private static void twelveCards() {
        CHECK.told("CARDS (12 at most)");
        WovenRoads x = Check.landOf("g5 4;");
        x.begins(0);
        int[] cards = {1, 1, 1, 1, 2, 3, 3, 3, 3, 2, 1, 1};
        int[] cells = {1, 2, 3, 4, 9, 8, 7, 6, 5, 10, 11, 12};
        for (int i = 0; i < 12; i++) {
            CHECK.due("CARDS", x.bolt(0, 2), i);
            CHECK.due("card " + i, x.weaves(0, cards[i]), cells[i]);
            CHECK.due("it ends", x.bolt(0, 1), cells[i]);
        }
        CHECK.due("card 12", x.weaves(0, 1), FULL);
        CHECK.due("CARDS stay", x.bolt(0, 2), 12);
        CHECK.due("it ends where it ended", x.bolt(0, 1), 12);
        CHECK.boltIs(x, 0, "0:111123333211");
    }

    private static void thirteenthCardBehindOthers() {
        CHECK.told("CARDS (12 at most): FULL as many as there are now");
        WovenRoads x = Check.landOf("g5 4;t0;");
        Check.addBolt(x, 6, "131313131313");
        CHECK.due("full", x.weaves(0, 1), FULL);
        CHECK.due("turned about", x.turnAbout(0), 6);
        CHECK.due("full the other way round", x.weaves(0, 1), FULL);
        CHECK.due("rain", x.rain(), 1);
        CHECK.due("a twelfth anew", x.weaves(0, 2), 12);
        CHECK.due("full again", x.weaves(0, 1), FULL);
        CHECK.due("undone", x.undo(), 9);
        CHECK.due("another twelfth", x.weaves(0, 0), 2);
        CHECK.due("full again", x.weaves(0, 1), FULL);
        CHECK.due("another bolt is not full", x.begins(6) + x.weaves(1, 1), 1 + 7);
    }

    private static void fourFullBolts() {
        CHECK.told("ELLS of all: 4 times 12 at most");
        WovenRoads x = Check.landOf("g5 4;t19;");
        String[] cards = {"111123333211", "222000222000", "333301111030", "000222000222"};
        int[] first = {0, 1, 19, 15};
        for (int b = 0; b < 4; b++) {
            Check.addBolt(x, first[b], cards[b]);
            CHECK.boltIs(x, b, first[b] + ":" + cards[b]);
        }
        CHECK.due("ELLS", x.now(1), 48);
        for (int b = 0; b < 4; b++) {
            CHECK.boltIs(x, b, first[b] + ":" + cards[b]);
            CHECK.due("card 12 of " + b, x.card(b, 12), BAD);
            CHECK.due("card 11 of " + b, x.card(b, 11), cards[b].charAt(11) - '0');
        }
        CHECK.due("rain", x.rain(), 4);
        CHECK.due("ELLS behind it", x.now(1), 44);
        CHECK.due("undo", x.undo(), 9);
        CHECK.due("ELLS of all again", x.now(1), 48);
    }

    private static void boltNumbers() {
        CHECK.told("bolt: BAD (.. there is no such thing)");
        for (int n = 0; n <= 4; n++) {
            WovenRoads x = new WovenRoads();
            for (int b = 0; b < n; b++) {
                x.begins(b);
            }
            for (int b = -1; b <= 5; b++) {
                boolean there = b >= 0 && b < n;
                CHECK.due("bolt " + b + " of " + n, x.bolt(b, 0), there ? b : BAD);
                CHECK.due("cards of bolt " + b + " of " + n, x.bolt(b, 2), there ? 0 : BAD);
                CHECK.due("rate of bolt " + b + " of " + n, x.rate(0, b), there ? 0 : WovenRoads.NO);
                CHECK.due("wrong in bolt " + b + " of " + n, x.wrong(b, 0, 0), there ? 0 : BAD);
                CHECK.due("turnAbout of bolt " + b + " of " + n, x.turnAbout(b), there ? b : BAD);
            }
            for (int what = -1; what <= 4 && n > 0; what++) {
                boolean asTold = what >= 0 && what <= 3;
                CHECK.due("bolt(0, " + what + ")", x.bolt(0, what), asTold ? 0 : BAD);
            }
        }
    }

    private static void cardNumbers() {
        CHECK.told("card: BAD (.. there is no such thing)");
        WovenRoads x = Check.landOf("g5 4;");
        x.begins(6);
        for (int n = 0; n <= 12; n++) {
            for (int i = -1; i <= 13; i++) {
                boolean there = i >= 0 && i < n;
                CHECK.due("card " + i + " of " + n, x.card(0, i), there ? i % 4 : BAD);
            }
            x.weaves(0, n % 4);
        }
        x.rain();
        CHECK.due("the card that the rain took", x.card(0, 11), BAD);
        CHECK.due("the one ahead of it", x.card(0, 10), 10 % 4);
    }

    private static void bendAtNothing() {
        CHECK.told("a CARD that leads off the land, or is too steep, is a BEND AT NOTHING: it is not woven");
        for (int card = 0; card < 4; card++) {
            WovenRoads x = Check.landOf("g3 3;h4 6;m5;");
            x.begins(4);
            CHECK.due("too steep down by " + card, x.weaves(0, card), STATE);
            int[] beside = {7, 3, 1, 5};
            x.begins(beside[card]);
            CHECK.due("too steep up by " + card, x.weaves(1, card), STATE);
            CHECK.due("not woven", x.now(1), 0);
            CHECK.due("it ends where it did", x.bolt(1, 1), beside[card]);
            CHECK.due("no road", x.road(4, card), 0);
            CHECK.due("nothing to undo but what was begun", x.now(6), 2);
        }
        WovenRoads y = Check.landOf("g3 3;h4 6;m6;");
        y.begins(4);
        CHECK.due("just not too steep", y.weaves(0, 0), 1);
        CHECK.due("just not too steep up", y.weaves(0, 2), 4);
    }

    private static void roadOfAnyBolt() {
        CHECK.told("A ROAD is between two CELLS if an ELL of any BOLT goes between them");
        WovenRoads x = Check.landOf("g3 2;t0;");
        CHECK.due("no bolt", x.road(0, 1), 0);
        x.begins(0);
        CHECK.due("no ell", x.road(0, 1), 0);
        x.weaves(0, 1);
        CHECK.due("from where it began", x.road(0, 1), 1);
        CHECK.due("from where it ended", x.road(1, 3), 1);
        Check.addBolt(x, 1, "3");
        x.rain();
        CHECK.due("one of both was lost", x.now(1), 1);
        CHECK.due("the road stays by the other", x.road(0, 1), 1);
        x.turnAbout(1);
        CHECK.due("turned about", x.road(0, 1), 1);
        x.rain();
        CHECK.due("both were lost", x.road(0, 1) + x.road(1, 3), 0);
    }

    private static void roadsOffTheLand() {
        CHECK.told("Whether a ROAD goes from a CELL by a CARD (1, 0)");
        WovenRoads x = Check.landOf("g2 4;");
        Check.addBolt(x, 0, "1232123");
        int[][] due = {
            {0, 1, 0, 0}, {0, 0, 1, 1}, {0, 1, 1, 0}, {1, 0, 0, 1},
            {1, 1, 0, 0}, {0, 0, 1, 1}, {0, 1, 0, 0}, {1, 0, 0, 1}
        };
        for (int c = 0; c < 8; c++) {
            for (int card = 0; card < 4; card++) {
                CHECK.due("road(" + c + ", " + card + ")", x.road(c, card), due[c][card]);
            }
        }
        WovenRoads ring = Check.landOf("g5 4;");
        Check.addBolt(ring, 0, "111122233330");
        Check.addBolt(ring, 10, "00");
        CHECK.due("no road off the first row", ring.road(2, 0), 0);
        CHECK.due("no road off the last row", ring.road(17, 2), 0);
        CHECK.due("no road from a row's end to the next row", ring.road(4, 1) + ring.road(9, 1), 0);
        CHECK.due("no road from a row's start to the row before", ring.road(5, 3) + ring.road(10, 3), 0);
    }

    private static void eachRoad() {
        CHECK.told("A ROAD is between two CELLS: each one of each land, from both, and no other one");
        for (int w = 2; w <= 5; w++) {
            for (int h = 2; h <= 4; h++) {
                for (int c = 0; c < w * h; c++) {
                    if (c % w + 1 < w) {
                        oneRoad(w, h, c, 1);
                    }
                    if (c + w < w * h) {
                        oneRoad(w, h, c, 2);
                    }
                }
            }
        }
    }

    private static void oneRoad(int w, int h, int c, int card) {
        WovenRoads x = Check.landOf("g" + w + " " + h + ";");
        Check.addBolt(x, c, "" + card);
        String name = w + " by " + h + ", road from " + c + " by " + card + ": ";
        CHECK.due(name + "there", x.road(c, card), 1);
        CHECK.due(name + "and back", x.road(card == 1 ? c + 1 : c + w, (card + 2) % 4), 1);
        CHECK.due(name + "joined", x.joined(c, card == 1 ? c + 1 : c + w), 1);
        int roads = 0;
        for (int from = 0; from < w * h; from++) {
            for (int by = 0; by < 4; by++) {
                roads += x.road(from, by);
            }
        }
        CHECK.due(name + "no other one", roads, 2);
    }

    // ---- what is done

    private static void turnedByLength() {
        CHECK.told("TURNED ABOUT: the BOLT begins where it ENDED, the same ELLS the other way round");
        String[] cards = {"", "0", "1", "2", "3", "10", "012", "1123", "111123333211"};
        String[] turned = {"", "2", "3", "0", "1", "23", "032", "1033", "330111103333"};
        int[] last = {6, 1, 7, 11, 5, 2, 7, 12, -1};
        for (int i = 0; i < cards.length; i++) {
            WovenRoads x = Check.landOf("g5 4;");
            int first = i == 8 ? 0 : 6;
            int end = i == 8 ? 12 : last[i];
            x.begins(19);
            Check.addBolt(x, first, cards[i]);
            CHECK.due("turnAbout of " + cards[i], x.turnAbout(1), end);
            CHECK.boltIs(x, 1, end + ":" + turned[i]);
            CHECK.due("it ends where it began", x.bolt(1, 1), first);
            CHECK.boltIs(x, 0, "19:");
            CHECK.due("turned twice", x.turnAbout(1), first);
            CHECK.boltIs(x, 1, first + ":" + cards[i]);
        }
    }

    private static void turnedInARing() {
        CHECK.told("TURNED ABOUT, where it ends on its first CELL");
        WovenRoads x = Check.landOf("g3 2;h1 3;h4 5;");
        Check.addBolt(x, 0, "1230");
        CHECK.due("UP", x.bolt(0, 3), 5);
        CHECK.due("turnAbout", x.turnAbout(0), 0);
        CHECK.boltIs(x, 0, "0:2103");
        CHECK.due("UP the other way round", x.bolt(0, 3), 5);
        WovenRoads y = Check.landOf("g3 2;h2 7;");
        Check.addBolt(y, 0, "11");
        CHECK.due("UP", y.bolt(0, 3), 7);
        y.turnAbout(0);
        CHECK.due("no UP the other way round", y.bolt(0, 3), 0);
        CHECK.due("ELLS stay", y.now(1), 2);
    }

    private static void rainOnNothing() {
        CHECK.told("RAIN: .. has one ELL less (the last one), if it has any");
        WovenRoads x = new WovenRoads();
        CHECK.due("no bolts", x.rain(), 0);
        CHECK.due("BOLTS", x.now(0), 0);
        x.begins(2);
        CHECK.due("a bolt without ells", x.rain(), 0);
        CHECK.boltIs(x, 0, "2:");
        x.weaves(0, 3);
        CHECK.due("its only ell", x.rain(), 1);
        CHECK.boltIs(x, 0, "2:");
        CHECK.due("none is left", x.rain(), 0);
        CHECK.due("the bolt stays", x.now(0), 1);
        CHECK.due("it can be woven on", x.weaves(0, 2), 5);
    }

    private static void rainOnAllFour() {
        CHECK.told("RAIN: each BOLT whose last CELL is no TOWN has one ELL less (the last one)");
        WovenRoads x = Check.landOf("g5 4;");
        Check.addBolt(x, 0, "1112");
        Check.addBolt(x, 5, "11");
        Check.addBolt(x, 10, "1");
        Check.addBolt(x, 15, "131");
        int[] lost = {4, 3, 2, 1, 0};
        String[] first = {"0:111", "0:11", "0:1", "0:", "0:"};
        String[] last = {"15:13", "15:1", "15:", "15:", "15:"};
        for (int i = 0; i < lost.length; i++) {
            CHECK.due("rain " + i, x.rain(), lost[i]);
            CHECK.boltIs(x, 0, first[i]);
            CHECK.boltIs(x, 3, last[i]);
        }
        CHECK.due("BOLTS", x.now(0), 4);
    }

    private static void rainWhereTownsHold() {
        CHECK.told("RAIN: each BOLT whose last CELL is no TOWN");
        WovenRoads x = Check.landOf("g5 4;t19;t0;t4;t15;");
        Check.addBolt(x, 18, "1");
        Check.addBolt(x, 1, "3");
        Check.addBolt(x, 3, "1");
        Check.addBolt(x, 16, "3");
        CHECK.due("each of four towns holds one", x.rain(), 0);
        CHECK.due("ELLS", x.now(1), 4);
        x.turnAbout(0);
        x.turnAbout(3);
        CHECK.due("two are turned about", x.rain(), 2);
        CHECK.boltIs(x, 0, "19:");
        CHECK.boltIs(x, 1, "1:3");
        CHECK.boltIs(x, 2, "3:1");
        CHECK.boltIs(x, 3, "15:");
    }

    private static void rainByTheLastCellAlone() {
        CHECK.told("RAIN, by the last CELL alone");
        WovenRoads x = Check.landOf("g5 4;t2;");
        Check.addBolt(x, 0, "1111");
        CHECK.due("a town between holds nothing yet", x.rain(), 1);
        CHECK.due("nor now", x.rain(), 1);
        CHECK.boltIs(x, 0, "0:11");
        CHECK.due("it ends there", x.rain(), 0);
        Check.addBolt(x, 2, "1");
        CHECK.due("a town where it begins holds nothing", x.rain(), 1);
        CHECK.boltIs(x, 1, "2:");
        Check.addBolt(x, 1, "11");
        CHECK.due("the same rain, each for itself", x.rain(), 1);
        CHECK.boltIs(x, 0, "0:11");
        CHECK.boltIs(x, 2, "1:1");
    }

    // ---- what is undone

    private static void undoneOneByOne() {
        CHECK.told("UNDONE: the latest begins(), weaves(), turnAbout(), rain() that was not refused");
        WovenRoads x = Check.landOf("g3 2;t5;");
        CHECK.due("none", x.undo(), STATE);
        x.begins(0);
        CHECK.due("may be undone", x.now(6), 1);
        x.weaves(0, 1);
        CHECK.due("may be undone", x.now(6), 2);
        x.turnAbout(0);
        CHECK.due("may be undone", x.now(6), 3);
        x.rain();
        CHECK.due("may be undone", x.now(6), 4);
        CHECK.boltIs(x, 0, "1:");
        CHECK.due("rain is undone", x.undo(), 3);
        CHECK.boltIs(x, 0, "1:3");
        CHECK.due("turnAbout is undone", x.undo(), 2);
        CHECK.boltIs(x, 0, "0:1");
        CHECK.due("weaves is undone", x.undo(), 1);
        CHECK.boltIs(x, 0, "0:");
        CHECK.due("begins is undone", x.undo(), 0);
        CHECK.due("no bolts", x.now(0), 0);
        CHECK.due("may be undone", x.now(6), 0);
        CHECK.due("none", x.undo(), STATE);
        CHECK.due("none, again", x.undo(), STATE);
        CHECK.due("none may be", x.now(6), 0);
    }

    private static void undoneThoughNothingBecameAnother() {
        CHECK.told("one by which nothing becomes another, too");
        WovenRoads x = new WovenRoads();
        x.rain();
        CHECK.due("rain on no bolts", x.now(6), 1);
        x.begins(4);
        x.turnAbout(0);
        CHECK.due("a bolt without ells turned about", x.now(6), 3);
        x.rain();
        CHECK.due("rain on a bolt without ells", x.now(6), 4);
        CHECK.due("undo", x.undo(), 3);
        CHECK.boltIs(x, 0, "4:");
        CHECK.due("undo", x.undo(), 2);
        CHECK.boltIs(x, 0, "4:");
        CHECK.due("undo of begins", x.undo(), 1);
        CHECK.due("no bolts", x.now(0), 0);
        CHECK.due("undo", x.undo(), 0);
        CHECK.due("none", x.undo(), STATE);
        for (int i = 0; i < 12; i++) {
            x.rain();
        }
        CHECK.due("they, too, are 10", x.now(6), 10);
    }

    /** Neither what is refused nor what else is called counts. */
    private static void notUndone() {
        CHECK.told("UNDONE: the latest begins(), weaves(), turnAbout(), rain() that was not refused");
        WovenRoads x = Check.landOf("g3 2;");
        Check.addBolt(x, 0, "1");
        x.begins(6);
        x.weaves(0, 0);
        x.weaves(0, 4);
        x.weaves(1, 0);
        x.turnAbout(1);
        x.back(0);
        x.undo();
        x.undo();
        CHECK.due("refused ones are not known", x.undo(), STATE);
        Check.addBolt(x, 0, "1");
        x.type('m');
        x.land();
        x.clear();
        x.keep(1);
        x.rate(0, 0);
        x.odds(9, 6, 0);
        x.toWeave();
        CHECK.due("nor are others", x.now(6), 2);
        CHECK.due("undo of weaves", x.undo(), 1);
        CHECK.boltIs(x, 0, "0:");
        CHECK.due("the trace goes on", x.trace(), 1);
        CHECK.due("image 1 stays", x.back(1), 1);
        CHECK.boltIs(x, 0, "0:1");
        CHECK.due("an undo is not undone", x.undo(), STATE);
    }

    private static void tenAreKnown() {
        CHECK.told("10 are known, older ones are lost");
        for (int done = 0; done <= 31; done++) {
            WovenRoads x = behind(done);
            int known = Math.min(done, 10);
            CHECK.due("known of " + done, x.now(6), known);
            for (int more = known - 1; more >= 0; more--) {
                CHECK.due("undo of " + done, x.undo(), more);
                String want = Unchanged.bolts(behind(done - known + more));
                CHECK.holds("bolts are" + want, Unchanged.bolts(x).equals(want));
                CHECK.due("may be undone", x.now(6), more);
            }
            CHECK.due("none of " + done, x.undo(), STATE);
        }
    }

    private static WovenRoads behind(int done) {
        WovenRoads x = Check.landOf("g5 4;");
        for (int i = 0; i < done; i++) {
            doSomething(x, i);
        }
        return x;
    }

    /** A state unlike the one before, but for some rains: begun, woven, turned, frayed in turns. */
    private static void doSomething(WovenRoads x, int i) {
        switch (i % 5) {
            case 0 -> {
                if (x.begins(i % 20) == FULL) {
                    x.rain();
                }
            }
            case 1, 2 -> {
                if (x.weaves(x.now(0) - 1, 1) < 0) {
                    x.turnAbout(0);
                }
            }
            case 3 -> x.turnAbout(x.now(0) - 1);
            default -> x.rain();
        }
    }

    /** The places of what is known go round; what was undone is not known any more. */
    private static void undoneAndDoneAnew() {
        CHECK.told("UNDONE: .. the latest .. older ones are lost, behind many");
        WovenRoads x = Check.landOf("g2 2;");
        List<String> states = new ArrayList<>();
        int[] steps = {4, -2, 9, -5, 3, -8, 12, -10, 1, -1, 5, -3, 20, -10};
        for (int step : steps) {
            for (int i = 0; i < step; i++) {
                states.add(ringBolt(x));
                goOnInRing(x);
            }
            int known = Math.min(states.size(), 10);
            CHECK.due("known behind " + step, x.now(6), known);
            for (int i = 0; i < -step; i++) {
                known--;
                CHECK.due("undo", x.undo(), known);
                String want = states.remove(states.size() - 1);
                String got = ringBolt(x);
                CHECK.holds("bolt 0 is " + got + ", due is " + want, got.equals(want));
            }
            states = new ArrayList<>(states.subList(states.size() - known, states.size()));
        }
        CHECK.due("none is left", x.undo(), STATE);
    }

    private static String ringBolt(WovenRoads x) {
        return x.bolt(0, 0) + ":" + x.bolt(0, 2);
    }

    /** Begins, weaves until the bolt is full, and rains then. */
    private static void goOnInRing(WovenRoads x) {
        if (x.now(0) == 0) {
            x.begins(0);
        } else if (x.weaves(0, x.bolt(0, 1) % 2 == 0 ? 1 : 3) == FULL) {
            x.rain();
        }
    }

    // ---- what is now

    private static void emptyNow() {
        CHECK.told("now of a land without TOWNS, BOLTS, ROADS");
        int[] due = {BAD, 0, 0, 0, 0, NONE, 0, 0, BAD};
        for (int what = -1; what <= 7; what++) {
            CHECK.due("now(" + what + ") of a new object", new WovenRoads().now(what), due[what + 1]);
        }
        WovenRoads x = Starts.busy();
        x.land();
        int[] oneTown = {0, 0, 1, 0, NONE, 0, 0};
        for (int what = 0; what < 7; what++) {
            CHECK.due("now(" + what + ") behind land", x.now(what), oneTown[what]);
        }
    }

    private static void ellsOfAll() {
        CHECK.told("now: 0 BOLTS, 1 ELLS of all");
        WovenRoads x = new WovenRoads();
        int ells = 0;
        for (int b = 0; b < 4; b++) {
            x.begins(0);
            CHECK.due("BOLTS", x.now(0), b + 1);
            CHECK.due("ELLS of all", x.now(1), ells);
            for (int i = 0; i < b; i++) {
                x.weaves(b, i % 2 == 0 ? 1 : 3);
                ells++;
                CHECK.due("ELLS of all", x.now(1), ells);
            }
        }
        CHECK.due("the same road is as many ells", ells, 6);
    }

    private static void call512() {
        CHECK.told("An object is used for at most 512 calls after it has been made");
        WovenRoads x = new WovenRoads();
        x.begins(0);
        for (int call = 2; call <= 510; call++) {
            if (call % 2 == 0) {
                x.weaves(0, 1);
            } else {
                x.rain();
            }
        }
        CHECK.due("call 511", x.undo(), 9);
        CHECK.due("call 512", x.bolt(0, 2), 0);
    }
}
