import java.util.function.Supplier;
import java.util.function.ToLongFunction;

/**
 * "Refused, and nothing changes, the first of these: BAD, STATE, FULL": every call that can be refused, with the
 * first numbers that are not as told on either side, and with what all other calls answer afterwards. And the calls
 * that only look, which change nothing either.
 */
public final class RefusalTest {
    private static final Check CHECK = new Check();
    private static final int BAD = WovenRoads.BAD, STATE = WovenRoads.STATE, FULL = WovenRoads.FULL;
    private static final int NO = WovenRoads.NO, NONE = WovenRoads.NONE;
    private static final int MIN = Integer.MIN_VALUE, MAX = Integer.MAX_VALUE;

    public static void main(String[] args) {
        badCells();
        badBolts();
        badCards();
        badWhats();
        badRanges();
        badKindsAndImages();
        badLetters();
        stateOfWeaves();
        stateOfUndo();
        stateOfBack();
        full();
        badAheadOfStateAndFull();
        stateAheadOfFull();
        landWithAFault();
        looksChangeNothing();
        readingLandChangesNothing();
        CHECK.finish("RefusalTest");
    }

    private static void refused(String name, Supplier<WovenRoads> start, ToLongFunction<WovenRoads> call, long due) {
        Unchanged.by(CHECK, name, start, call, due);
    }

    private static void bad(String name, ToLongFunction<WovenRoads> call) {
        refused(name, Starts::busy, call, BAD);
    }

    /** Cells are 0 .. 11 there. */
    private static void badCells() {
        CHECK.told("BAD (a number is not as told, or there is no such thing): CELLS 0 .. w times h less 1");
        for (int c : new int[] {-1, 12, 13, 19, 20, 31, 32, 64, MIN, MAX}) {
            bad("height(" + c + ")", x -> x.height(c));
            bad("road(" + c + ", 0)", x -> x.road(c, 0));
            bad("begins(" + c + ")", x -> x.begins(c));
            bad("joined(" + c + ", 0)", x -> x.joined(c, 0));
            bad("joined(0, " + c + ")", x -> x.joined(0, c));
            bad("joined(" + c + ", itself)", x -> x.joined(c, c));
            bad("way(" + c + ", 0)", x -> x.way(c, 0));
            bad("way(0, " + c + ")", x -> x.way(0, c));
            bad("way(" + c + ", itself)", x -> x.way(c, c));
            bad("wrong(0, " + c + ", 0)", x -> x.wrong(0, c, 0));
            bad("wrong(0, " + c + ", 1)", x -> x.wrong(0, c, 1));
        }
    }

    /** Bolts are 0, 1 there; towns 0, 1, 2. */
    private static void badBolts() {
        CHECK.told("BAD (.. there is no such thing): BOLTS 0 .., TOWNS 0 ..");
        for (int b : new int[] {-1, 2, 3, 4, MIN, MAX}) {
            bad("bolt(" + b + ", 0)", x -> x.bolt(b, 0));
            bad("card(" + b + ", 0)", x -> x.card(b, 0));
            bad("weaves(" + b + ", 0)", x -> x.weaves(b, 0));
            bad("turnAbout(" + b + ")", x -> x.turnAbout(b));
            bad("wrong(" + b + ", 0, 0)", x -> x.wrong(b, 0, 0));
            bad("look(" + b + ", 1)", x -> x.look(b, 1));
            for (int kind = 0; kind < 6; kind++) {
                int of = kind;
                refused("rate(" + kind + ", " + b + ")", Starts::busy, x -> x.rate(of, b), NO);
            }
        }
        for (int t : new int[] {-1, 3, 4, MIN, MAX}) {
            bad("town(" + t + ")", x -> x.town(t));
        }
        refused("town(0) without towns", WovenRoads::new, x -> x.town(0), BAD);
        refused("bolt(0, 0) without bolts", WovenRoads::new, x -> x.bolt(0, 0), BAD);
        refused("turnAbout(0) without bolts", WovenRoads::new, x -> x.turnAbout(0), BAD);
        refused("rate(0, 0) without bolts", WovenRoads::new, x -> x.rate(0, 0), NO);
        refused("turnAbout(4) of four", Starts::fullOfBolts, x -> x.turnAbout(4), BAD);
    }

    /** Bolt 0 has 4 cards, bolt 1 has 2. */
    private static void badCards() {
        CHECK.told("each 0 up .., 3 left; behind i CARDS (1 .. as many as there are)");
        for (int card : new int[] {-1, 4, 5, MIN, MAX}) {
            bad("road(0, " + card + ")", x -> x.road(0, card));
            bad("weaves(0, " + card + ")", x -> x.weaves(0, card));
        }
        for (int i : new int[] {-1, 4, 5, 12, MIN, MAX}) {
            bad("card(0, " + i + ")", x -> x.card(0, i));
        }
        bad("card(1, 2)", x -> x.card(1, 2));
        for (int i : new int[] {-1, 0, 5, 12, 13, MIN, MAX}) {
            bad("look(0, " + i + ")", x -> x.look(0, i));
        }
        bad("look(1, 3)", x -> x.look(1, 3));
        refused("look(1, 13) of 12", Starts::fullOfCards, x -> x.look(1, 13), BAD);
        refused("card(1, 12) of 12", Starts::fullOfCards, x -> x.card(1, 12), BAD);
        refused("look(2, 1) of none", Starts::fullOfBolts, x -> x.look(2, 1), BAD);
        refused("look(2, 0) of none", Starts::fullOfBolts, x -> x.look(2, 0), BAD);
        refused("card(2, 0) of none", Starts::fullOfBolts, x -> x.card(2, 0), BAD);
    }

    private static void badWhats() {
        CHECK.told("BAD (a number is not as told): what");
        for (int what : new int[] {-1, 4, 5, MIN, MAX}) {
            bad("bolt(0, " + what + ")", x -> x.bolt(0, what));
        }
        for (int what : new int[] {-1, 7, 8, MIN, MAX}) {
            bad("now(" + what + ")", x -> x.now(what));
        }
        for (int what : new int[] {-1, 5, 6, MIN, MAX}) {
            bad("count(" + what + ")", x -> x.count(what));
        }
        for (int what : new int[] {-1, 2, 3, MIN, MAX}) {
            bad("odds(5, 2, " + what + ")", x -> x.odds(5, 2, what));
            bad("wrong(1, 5, " + what + ")", x -> x.wrong(1, 5, what));
        }
    }

    private static void badRanges() {
        CHECK.told("d (0 .. 20), p (0 .. 10), n (0 .. 6)");
        for (int d : new int[] {-1, 21, 22, MIN, MAX}) {
            bad("darners(" + d + ")", x -> x.darners(d));
        }
        for (int p : new int[] {-1, 11, 12, MIN, MAX}) {
            bad("odds(" + p + ", 2, 0)", x -> x.odds(p, 2, 0));
            bad("odds(" + p + ", 2, 1)", x -> x.odds(p, 2, 1));
            bad("odds(" + p + ", 0, 0)", x -> x.odds(p, 0, 0));
        }
        for (int n : new int[] {-1, 7, 8, MIN, MAX}) {
            bad("odds(5, " + n + ", 0)", x -> x.odds(5, n, 0));
            bad("odds(5, " + n + ", 1)", x -> x.odds(5, n, 1));
            bad("odds(0, " + n + ", 0)", x -> x.odds(0, n, 0));
        }
        refused("darners(21) without a ROAD", WovenRoads::new, x -> x.darners(21), BAD);
        refused("darners(-1) without a ROAD", WovenRoads::new, x -> x.darners(-1), BAD);
        refused("odds(11, 7, 2) without TOWNS", WovenRoads::new, x -> x.odds(11, 7, 2), BAD);
    }

    private static void badKindsAndImages() {
        CHECK.told("KINDS 0 .. 5: NO; IMAGES 0, 1");
        for (int kind : new int[] {-1, 6, 7, MIN, MAX}) {
            refused("rate(" + kind + ", 0)", Starts::busy, x -> x.rate(kind, 0), NO);
            refused("rate(" + kind + ", 2)", Starts::busy, x -> x.rate(kind, 2), NO);
        }
        for (int image : new int[] {-1, 2, 3, 32, MIN, MAX}) {
            bad("keep(" + image + ")", x -> x.keep(image));
            bad("back(" + image + ")", x -> x.back(image));
        }
    }

    private static void badLetters() {
        CHECK.told("A letter (0 .. 255)");
        for (int letter : new int[] {-1, 256, 257, 288, 65536 + 32, MIN, MAX}) {
            bad("type(" + letter + ")", x -> x.type(letter));
        }
    }

    private static void stateOfWeaves() {
        CHECK.told("a CARD that leads off the land, or is too steep, is a BEND AT NOTHING: it is not woven");
        refused("left off the land", Starts::busy, x -> x.weaves(1, 3), STATE);
        refused("down off the land", Starts::busy, x -> x.weaves(1, 2), STATE);
        refused("right off the land", Starts::busy, x -> x.weaves(0, 1), STATE);
        refused("too steep up", Starts::busy, x -> x.weaves(0, 3), STATE);
        refused("up off the land", () -> high(1), x -> x.weaves(0, 0), STATE);
        refused("too steep down", () -> high(6), x -> x.weaves(0, 1), STATE);
        refused("too steep down a column", () -> high(6), x -> x.weaves(0, 2), STATE);
        refused("too steep up a column", () -> high(10), x -> x.weaves(0, 0), STATE);
    }

    /** A bolt on a cell of the land of busy(), whose cell 6 is 8 high with slope 6. */
    private static WovenRoads high(int cell) {
        WovenRoads x = Check.landOf("g4 3;h6 8;t7;m6;");
        x.begins(cell);
        x.keep(0);
        return x;
    }

    private static void stateOfUndo() {
        CHECK.told("undo: STATE: none");
        refused("undo of a new object", WovenRoads::new, WovenRoads::undo, STATE);
        refused("undo when all is undone", Starts::withoutPast, WovenRoads::undo, STATE);
        refused("undo behind back", Starts::behindBack, WovenRoads::undo, STATE);
        refused("undo behind land", () -> {
            WovenRoads x = Starts.busy();
            x.land();
            Check.type(x, "m2;");
            return x;
        }, WovenRoads::undo, STATE);
        refused("an eleventh undo", () -> {
            WovenRoads x = Starts.busy();
            for (int i = 0; i < 10; i++) {
                x.undo();
            }
            return x;
        }, WovenRoads::undo, STATE);
    }

    private static void stateOfBack() {
        CHECK.told("back: STATE: none was kept");
        refused("back(0) of a new object", WovenRoads::new, x -> x.back(0), STATE);
        refused("back(1) of a new object", WovenRoads::new, x -> x.back(1), STATE);
        refused("back(0) if 1 was kept", Starts::behindBack, x -> x.back(0), STATE);
        refused("back(1) if 0 was kept", () -> high(6), x -> x.back(1), STATE);
        Supplier<WovenRoads> behindLand = () -> {
            WovenRoads x = Starts.busy();
            x.land();
            Check.addBolt(x, 0, "1");
            return x;
        };
        refused("back(0) behind land", behindLand, x -> x.back(0), STATE);
        refused("back(1) behind land", behindLand, x -> x.back(1), STATE);
    }

    private static void full() {
        CHECK.told("FULL: (200 letters at most), BOLTS (4 at most), CARDS (12 at most)");
        for (int letter : new int[] {0, 32, ';', 't', 255}) {
            refused("type(" + letter + ") as letter 201", Starts::fullOfLetters, x -> x.type(letter), FULL);
        }
        for (int c = 0; c < 12; c++) {
            int cell = c;
            refused("begins(" + c + ") as bolt 5", Starts::fullOfBolts, x -> x.begins(cell), FULL);
        }
        refused("weaves(1, 0) as card 13", Starts::fullOfCards, x -> x.weaves(1, 0), FULL);
        refused("weaves(1, 1) as card 13", Starts::fullOfCards, x -> x.weaves(1, 1), FULL);
        refused("weaves(0, 2) as card 13", Starts::fullBesideSteep, x -> x.weaves(0, 2), FULL);
    }

    private static void badAheadOfStateAndFull() {
        CHECK.told("the first of these: BAD, STATE, FULL");
        for (int letter : new int[] {-1, 256, MIN, MAX}) {
            refused("type(" + letter + ") as letter 201", Starts::fullOfLetters, x -> x.type(letter), BAD);
        }
        for (int c : new int[] {-1, 12, MIN, MAX}) {
            refused("begins(" + c + ") as bolt 5", Starts::fullOfBolts, x -> x.begins(c), BAD);
        }
        for (int card : new int[] {-1, 4, MIN, MAX}) {
            refused("weaves(1, " + card + ") as card 13", Starts::fullOfCards, x -> x.weaves(1, card), BAD);
            refused("weaves(0, " + card + ") in a corner", Starts::fullBesideSteep, x -> x.weaves(0, card), BAD);
        }
        refused("weaves(4, 0) of four", Starts::fullOfBolts, x -> x.weaves(4, 0), BAD);
        for (int image : new int[] {-1, 2, MIN, MAX}) {
            refused("back(" + image + ") of none kept", Starts::withoutPast, x -> x.back(image), BAD);
        }
    }

    private static void stateAheadOfFull() {
        CHECK.told("the first of these: STATE (a BEND AT NOTHING), FULL");
        refused("left off the land as card 13", Starts::fullOfCards, x -> x.weaves(1, 3), STATE);
        refused("down off the land as card 13", Starts::fullOfCards, x -> x.weaves(1, 2), STATE);
        refused("up off the land as card 13", Starts::fullBesideSteep, x -> x.weaves(0, 0), STATE);
        refused("too steep as card 13", Starts::fullBesideSteep, x -> x.weaves(0, 1), STATE);
    }

    private static void landWithAFault() {
        CHECK.told("-10 less FAULT: nothing changes (THE TEXT stays, too)");
        String[] texts = {
            "x", "5", ";", "g", "h1 2;t1;g2 2;", "g2 2;g2 2;", "m1;m1;", "t0;t1;t2;t3;t4;", "g2 2;t4;", "g5 4;h20 1;",
            "t1;h1 1;t1;", "g6 4;", "g5 5;", "g1 2;", "g2 1;", "h0 10;", "m10;", "m100;", "g5 4;t01;", "h0 5;t0;m3",
            "g5 4;h0 5;t0;t3;m3;x", "g2 2;h0 1;h1 2;h2 3;h3 4;t0;t1;t2;t3;m2;;"
        };
        int[] faults = {0, 0, 0, 1, 8, 5, 3, 12, 6, 6, 9, 1, 3, 1, 3, 3, 1, 1, 6, 10, 19, 40};
        for (int i = 0; i < texts.length; i++) {
            String text = texts[i];
            refused("land of '" + text + "'", () -> Starts.busyWith(text), WovenRoads::land, -10 - faults[i]);
        }
    }

    private static void looks(String name, ToLongFunction<WovenRoads> call, long due) {
        Unchanged.by(CHECK, name, Starts::busy, call, due);
    }

    private static void looksChangeNothing() {
        CHECK.told("======== 3 (Nothing is changed.)");
        looks("joined(0, 7)", x -> x.joined(0, 7), 1);
        looks("joined(0, 8)", x -> x.joined(0, 8), 0);
        looks("toWeave()", WovenRoads::toWeave, 2);
        looks("way(0, 7)", x -> x.way(0, 7), 8);
        looks("way(7, 0)", x -> x.way(7, 0), 8);
        looks("way(0, 5)", x -> x.way(0, 5), NONE);
        looks("darners(0)", x -> x.darners(0), NONE);
        looks("darners(20)", x -> x.darners(20), NONE);
        looks("odds(10, 6, 0)", x -> x.odds(10, 6, 0), 0);
        looks("odds(10, 6, 1)", x -> x.odds(10, 6, 1), 1);
        looks("odds(5, 3, 1)", x -> x.odds(5, 3, 1), 1);
        looks("wrong(1, 5, 0)", x -> x.wrong(1, 5, 0), 2);
        looks("wrong(1, 5, 1)", x -> x.wrong(1, 5, 1), 1);
        looks("wrong(1, 8, 1)", x -> x.wrong(1, 8, 1), NONE);
        looks("look(1, 1)", x -> x.look(1, 1), 2);
        looks("look(1, 2)", x -> x.look(1, 2), 3);
        int[] now = {2, 6, 2, 2, 4, 0, 10};
        for (int what = 0; what < now.length; what++) {
            int of = what;
            looks("now(" + what + ")", x -> x.now(of), now[what]);
        }
    }

    private static void readingLandChangesNothing() {
        CHECK.told("What only reads changes nothing");
        int[] bolt = {5, 8, 2, 0};
        int[] count = {4, 3, 3, 6, 8};
        for (int what = 0; what < bolt.length; what++) {
            int of = what;
            looks("bolt(1, " + what + ")", x -> x.bolt(1, of), bolt[what]);
        }
        for (int what = 0; what < count.length; what++) {
            int of = what;
            looks("count(" + what + ")", x -> x.count(of), count[what]);
        }
        looks("height(6)", x -> x.height(6), 8);
        looks("town(2)", x -> x.town(2), 10);
        looks("card(1, 1)", x -> x.card(1, 1), 3);
        looks("road(9, 0)", x -> x.road(9, 0), 1);
        looks("road(9, 1)", x -> x.road(9, 1), 0);
        looks("trace()", WovenRoads::trace, 10101);
    }
}
