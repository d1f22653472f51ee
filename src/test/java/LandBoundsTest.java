/** Part 1 of the document, by its bounds: the land that is told, and each way in which THE TEXT can be at fault. */
public final class LandBoundsTest {
    private static final Check CHECK = new Check();
    private static final int BAD = WovenRoads.BAD, STATE = WovenRoads.STATE, FULL = WovenRoads.FULL;

    public static void main(String[] args) {
        sides();
        sidesAtFirst();
        cellsRowByRow();
        heightNumbers();
        townNumbers();
        townsOnUnlikeCells();
        slopeNumbers();
        slopeOfRoads();
        asManyLetters();
        lettersAtTheEnd();
        eachLetterIsCounted();
        blanks();
        blankIsOneLetterAlone();
        items();
        sizeIsTheFirst();
        toldAgain();
        slopeOnce();
        fifthTown();
        noSuchCell();
        numbersAbove99();
        zeroAhead();
        eachLetterAlone();
        eachLetterForANumber();
        eachLetterForAnEnd();
        eachLetterForAnItem();
        endsTooEarly();
        firstOfTwoFaults();
        behindAFault();
        CHECK.finish("LandBoundsTest");
    }

    private static int landAnswer(String text) {
        return Check.tell(new WovenRoads(), text);
    }

    private static void good(String text, int items) {
        WovenRoads x = new WovenRoads();
        CHECK.due("land of '" + text + "'", Check.tell(x, text), items);
        CHECK.due("letters behind '" + text + "'", x.count(4), 0);
    }

    private static void fault(String text, int place) {
        WovenRoads x = new WovenRoads();
        CHECK.due("land of '" + text + "'", Check.tell(x, text), -10 - place);
        CHECK.due("letters that stay of '" + text + "'", x.count(4), text.length());
        CHECK.due("land of '" + text + "' again", x.land(), -10 - place);
        CHECK.due("letters to clear of '" + text + "'", x.clear(), text.length());
    }

    // ---- cells, heights, towns, slope

    private static void sides() {
        CHECK.told("(w 2 .. 5, h 2 .. 4; 3 and 2 at first)");
        for (int w = 0; w <= 12; w++) {
            for (int h = 0; h <= 12; h++) {
                String text = "g" + w + " " + h + ";";
                if (w < 2 || w > 5) {
                    fault(text, 1);
                } else if (h < 2 || h > 4) {
                    fault(text, 3);
                } else {
                    sizeIs(text, w, h);
                }
            }
        }
        fault("g99 2;", 1);
        fault("g2 99;", 3);
    }

    private static void sizeIs(String text, int w, int h) {
        WovenRoads x = new WovenRoads();
        CHECK.due("land of " + text, Check.tell(x, text), 1);
        CHECK.due("w of " + text, x.count(0), w);
        CHECK.due("h of " + text, x.count(1), h);
        for (int c = -1; c <= 20; c++) {
            boolean cell = c >= 0 && c < w * h;
            CHECK.due("height(" + c + ") of " + text, x.height(c), cell ? 0 : BAD);
            CHECK.due("joined(" + c + ", itself) of " + text, x.joined(c, c), cell ? 1 : BAD);
            CHECK.due("road(" + c + ", 1) of " + text, x.road(c, 1), cell ? 0 : BAD);
        }
        CHECK.due("begins on the last of " + text, x.begins(w * h - 1), 0);
        CHECK.due("begins behind the last of " + text, x.begins(w * h), BAD);
    }

    private static void sidesAtFirst() {
        CHECK.told("3 and 2 at first; what is not told as at first");
        WovenRoads x = new WovenRoads();
        CHECK.due("w", x.count(0), 3);
        CHECK.due("h", x.count(1), 2);
        for (String text : new String[] {"", " ", "m1;", "t5;", "h5 1;"}) {
            Check.tell(x, "g5 4;");
            Check.tell(x, text);
            CHECK.due("w behind '" + text + "'", x.count(0), 3);
            CHECK.due("h behind '" + text + "'", x.count(1), 2);
            CHECK.due("the last cell behind '" + text + "'", x.joined(5, 5), 1);
            CHECK.due("no cell behind '" + text + "'", x.height(6), BAD);
        }
    }

    private static void cellsRowByRow() {
        CHECK.told("CELLS .. row by row; those side by side, or one under another, are NEXT");
        for (int w = 2; w <= 5; w++) {
            for (int h = 2; h <= 4; h++) {
                WovenRoads x = Check.landOf("g" + w + " " + h + ";");
                for (int c = 0; c < w * h; c++) {
                    x.begins(c);
                    int[] due = {
                        c / w > 0 ? c - w : STATE, c % w < w - 1 ? c + 1 : STATE,
                        c / w < h - 1 ? c + w : STATE, c % w > 0 ? c - 1 : STATE
                    };
                    for (int card = 0; card < 4; card++) {
                        CHECK.due(w + " by " + h + ": from " + c + " by " + card, x.weaves(0, card), due[card]);
                        if (due[card] >= 0) {
                            x.undo();
                        }
                    }
                    x.undo();
                }
            }
        }
    }

    private static void heightNumbers() {
        CHECK.told("HEIGHT of each (0 .. 9; 0 at first)");
        for (int n = 0; n <= 9; n++) {
            WovenRoads x = Check.landOf("g5 4;h0 " + n + ";h19 " + n + ";");
            CHECK.due("first cell", x.height(0), n);
            CHECK.due("second cell", x.height(1), 0);
            CHECK.due("last but one", x.height(18), 0);
            CHECK.due("last cell", x.height(19), n);
        }
        for (int n : new int[] {10, 11, 19, 90, 99, 100}) {
            fault("h0 " + n + ";", 3);
            fault("g5 4;h19 " + n + ";", 9);
        }
        WovenRoads x = Check.landOf("g5 4;h0 9;h7 9;h19 9;");
        Check.tell(x, "g5 4;");
        for (int c = 0; c < 20; c++) {
            CHECK.due("height " + c + " as at first", x.height(c), 0);
        }
    }

    private static void townNumbers() {
        CHECK.told("TOWNS 0 .. (4 at most)");
        String text = "g5 4;";
        int[] cells = {19, 0, 7, 4};
        for (int n = 0; n <= 4; n++) {
            WovenRoads x = Check.landOf(text);
            CHECK.due("TOWNS", x.count(2), n);
            for (int t = 0; t < n; t++) {
                CHECK.due("town " + t + " of " + n, x.town(t), cells[t]);
            }
            for (int t = n; t <= 5; t++) {
                CHECK.due("town " + t + " of " + n, x.town(t), BAD);
            }
            CHECK.due("town -1 of " + n, x.town(-1), BAD);
            text = n < 4 ? text + "t" + cells[n] + ";" : text;
        }
    }

    private static void townsOnUnlikeCells() {
        CHECK.told("on unlike CELLS; one with a TOWN for t");
        fault("t5;t5;", 4);
        fault("t1;t2;t1;", 7);
        fault("t1;t2;t2;", 7);
        fault("t1;t2;t3;t1;", 10);
        fault("t1;t2;t3;t2;", 10);
        fault("t1;t2;t3; t  3;", 13);
        fault("g5 4;t19;t19;", 10);
        good("t5;h5 9;", 2);
        good("h5 9;t5;", 2);
        good("g2 2;t3;t2;t1;t0;", 5);
        WovenRoads x = Check.landOf("t5;");
        CHECK.due("the same cell in a text of its own", Check.tell(x, "t5;"), 1);
        CHECK.due("it is the only town", x.count(2), 1);
    }

    private static void slopeNumbers() {
        CHECK.told("SLOPE (0 .. 9; 9 at first)");
        CHECK.due("at first", new WovenRoads().count(3), 9);
        for (int n = 0; n <= 9; n++) {
            WovenRoads x = Check.landOf("m" + n + ";");
            CHECK.due("SLOPE", x.count(3), n);
            CHECK.due("land", Check.tell(x, "t0;"), 1);
            CHECK.due("SLOPE as at first", x.count(3), 9);
        }
        for (int n : new int[] {10, 11, 90, 99, 100}) {
            fault("m" + n + ";", 1);
        }
    }

    private static void slopeOfRoads() {
        CHECK.told("between CELLS whose HEIGHTS differ by more no road goes");
        for (int slope = 0; slope <= 9; slope++) {
            for (int step = 0; step <= 9; step++) {
                WovenRoads x = Check.landOf("g2 2;m" + slope + ";h0 " + step + ";");
                boolean goes = step <= slope;
                String what = "step " + step + " by slope " + slope;
                x.begins(1);
                CHECK.due(what + ", up, left", x.weaves(0, 3), goes ? 0 : STATE);
                x.begins(0);
                CHECK.due(what + ", down, right", x.weaves(1, 1), goes ? 1 : STATE);
                x.begins(2);
                CHECK.due(what + ", up, up", x.weaves(2, 0), goes ? 0 : STATE);
                x.begins(0);
                CHECK.due(what + ", down, down", x.weaves(3, 2), goes ? 2 : STATE);
                CHECK.due(what + ", ELLS", x.now(1), goes ? 4 : 0);
                CHECK.due(what + ", STEEP", x.now(4), goes ? step : WovenRoads.NONE);
            }
        }
    }

    // ---- the text

    private static void asManyLetters() {
        CHECK.told("(200 letters at most): FULL");
        WovenRoads x = new WovenRoads();
        for (int n = 1; n <= 200; n++) {
            CHECK.due("letter " + n, x.type(n <= 197 ? 32 : "t3;".charAt(n - 198)), n);
        }
        CHECK.due("letter 201", x.type('x'), FULL);
        CHECK.due("letter 201 again", x.type(32), FULL);
        CHECK.due("no letter, and letter 201", x.type(256), BAD);
        CHECK.due("letters", x.count(4), 200);
        CHECK.due("letter 201 did not come to it", x.land(), 1);
        CHECK.due("town", x.town(0), 3);
        CHECK.due("the first letter anew", x.type('t'), 1);
        CHECK.due("letters anew", x.count(4), 1);
        WovenRoads y = new WovenRoads();
        Check.type(y, "x".repeat(200));
        CHECK.due("a fault", y.land(), -10);
        CHECK.due("still full", y.type(32), FULL);
        CHECK.due("clear of 200", y.clear(), 200);
        CHECK.due("clear of none", y.clear(), 0);
        CHECK.due("the first letter behind clear", y.type(32), 1);
    }

    private static void lettersAtTheEnd() {
        CHECK.told("FAULT: the place; the text's length, if it ends too early");
        good(" ".repeat(200), 0);
        good(" ".repeat(195) + "h5 9;", 1);
        fault(" ".repeat(199) + "x", 199);
        fault(" ".repeat(199) + "t", 200);
        fault(" ".repeat(198) + "t1", 200);
        fault("t1" + " ".repeat(198), 200);
        good("t1" + " ".repeat(197) + ";", 1);
    }

    private static void eachLetterIsCounted() {
        CHECK.told("A letter (0 .. 255) comes to THE TEXT: how many it has");
        WovenRoads x = new WovenRoads();
        for (int letter = 0; letter <= 255; letter++) {
            if (letter == 128) {
                CHECK.due("half of them", x.clear(), 128);
            }
            CHECK.due("type(" + letter + ")", x.type(letter), letter % 128 + 1);
        }
        CHECK.due("letters", x.count(4), 128);
        CHECK.due("type(-1)", x.type(-1), BAD);
        CHECK.due("type(256)", x.type(256), BAD);
        CHECK.due("letters stay", x.clear(), 128);
    }

    private static void blanks() {
        CHECK.told("blanks (32), any number, ahead of, between, behind TOKENS (needed only between two NUMBERS)");
        String[] tokens = {"g", "5", "4", ";", "h", "19", "7", ";", "t", "19", ";", "m", "0", ";"};
        for (int some = 0; some <= 6; some++) {
            StringBuilder text = new StringBuilder(" ".repeat(some));
            for (int i = 0; i < tokens.length; i++) {
                boolean needed = i == 1 || i == 5;
                text.append(tokens[i]).append(" ".repeat(needed ? Math.max(some, 1) : some));
            }
            WovenRoads x = Check.landOf(text.toString());
            CHECK.due("w with " + some, x.count(0), 5);
            CHECK.due("h with " + some, x.count(1), 4);
            CHECK.due("height with " + some, x.height(19), 7);
            CHECK.due("town with " + some, x.town(0), 19);
            CHECK.due("slope with " + some, x.count(3), 0);
        }
        good("g2 2;t0;", 2);
        good("t0;h1 2;m3;", 3);
        fault("g22;", 1);
        fault("h12;", 1);
        fault("g5 4;h12;", 8);
        fault("g5 4;h123;", 6);
        fault("t 1 2;", 4);
    }

    private static void blankIsOneLetterAlone() {
        CHECK.told("blanks (32)");
        for (int letter : new int[] {0, 9, 10, 11, 12, 13, 31, 33, 133, 160, 255}) {
            char sign = (char) letter;
            fault(sign + "t0;", 0);
            fault("t" + sign + "0;", 1);
            fault("t0" + sign + ";", 2);
            fault("t0;" + sign, 3);
            fault("h0" + sign + "1;", 2);
        }
    }

    private static void items() {
        CHECK.told("ITEMS (none, too), each ended by ;");
        good("", 0);
        good(" ", 0);
        good("t0;", 1);
        good("t0;t1;", 2);
        fault(";", 0);
        fault("t0;;", 3);
        fault("t0; ;", 4);
        fault("t0 t1;", 3);
        fault("h0 1 h1 1;", 5);
        fault("g2 2 t0;", 5);
        fault("m1 t0;", 3);
        StringBuilder most = new StringBuilder("t0;t1;t2;t3;m0;");
        for (int i = 0; i < 37; i++) {
            most.append("h").append(i % 6).append(" ").append(i % 10).append(";");
        }
        CHECK.due("letters of the most items", most.length(), 200);
        good(most.toString(), 42);
    }

    private static void sizeIsTheFirst() {
        CHECK.told("g W H (the first of all, if it is told); g behind another ITEM");
        good("g2 3;", 1);
        good("   g2 3;t5;", 2);
        good("t5;", 1);
        fault("g2 2;g2 2;", 5);
        fault("h0 0;g2 2;", 5);
        fault("t0;g2 2;", 3);
        fault("m0; g2 2;", 4);
        fault("t0;t1;g", 6);
        fault("t0;g9 9;", 3);
        fault("g2 2;g", 5);
        fault("gg", 1);
        fault("g2 2", 4);
    }

    private static void toldAgain() {
        CHECK.told("h C N (the HEIGHT of a CELL; told again: the later one)");
        for (int n = 0; n <= 9; n++) {
            WovenRoads x = Check.landOf("h2 5;h3 1;h2 " + n + ";");
            CHECK.due("the later one", x.height(2), n);
            CHECK.due("another one", x.height(3), 1);
        }
        good("h2 5;h2 5;h2 5;", 3);
    }

    private static void slopeOnce() {
        CHECK.told("m N (SLOPE; once at most); m again");
        good("m9;", 1);
        fault("m9;m9;", 3);
        fault("m0;m0;", 3);
        fault("m0;t0;h1 1;m1;", 11);
        fault("m0;m", 3);
        fault("m0;m10;", 3);
        fault("m0;  m;", 5);
        good("g2 2;m0;", 2);
        good("t0;h1 1;m0;", 3);
    }

    private static void fifthTown() {
        CHECK.told("a fifth t");
        good("g5 4;t0;t1;t2;t3;", 5);
        fault("g5 4;t0;t1;t2;t3;t4;", 17);
        fault("t0;t1;t2;t3;t4;", 12);
        fault("t0;t1;t2;t3;  t4;", 14);
        fault("t0;t1;t2;t3;t", 12);
        fault("t0;t1;t2;t3;t0;", 12);
        fault("t0;t1;t2;t3;t6;", 12);
        fault("t0;t1;t2;t3;m1;t4;", 15);
        good("t0;t1;t2;t3;m1;h0 1;", 6);
    }

    private static void noSuchCell() {
        CHECK.told("a CELL that there is not");
        for (int w = 2; w <= 5; w++) {
            for (int h = 2; h <= 4; h++) {
                String size = "g" + w + " " + h + ";";
                good(size + "h" + (w * h - 1) + " 9;t" + (w * h - 1) + ";", 3);
                fault(size + "h" + w * h + " 9;", 6);
                fault(size + "t" + w * h + ";", 6);
                fault(size + "t99;", 6);
                fault(size + "h99 0;", 6);
            }
        }
        good("h5 0;t5;", 2);
        fault("h6 0;", 1);
        fault("t6;", 1);
        WovenRoads x = Check.landOf("g5 4;");
        CHECK.due("cells of the land before do not matter", Check.tell(x, "t6;"), -11);
    }

    private static void numbersAbove99() {
        CHECK.told("a NUMBER above 99 .. that TOKEN's");
        String[] numbers = {
            "100", "101", "255", "256", "257", "999", "65536", "65537", "2147483647", "2147483648", "4294967295",
            "4294967296", "4294967298", "9223372036854775808", "18446744073709551616", "18446744073709551618",
            "1" + "0".repeat(100), "9".repeat(180)
        };
        for (String number : numbers) {
            fault("m" + number + ";", 1);
            fault("t" + number + ";", 1);
            fault("t  " + number, 3);
            fault("h" + number + " 1;", 1);
            fault("h1 " + number + ";", 3);
            fault("g" + number + " 2;", 1);
            fault("g2 " + number + ";", 3);
            fault("g2 2 " + number + ";", 5);
            fault(number, 0);
            fault("t0;" + number, 3);
        }
    }

    private static void zeroAhead() {
        CHECK.told("or with a 0 ahead of others, that TOKEN's");
        for (String number : new String[] {"00", "01", "02", "05", "09", "000", "002", "010", "0100", "0".repeat(180)}) {
            fault("m" + number + ";", 1);
            fault("t" + number + ";", 1);
            fault("t  " + number + " ;", 3);
            fault("h" + number + " 1;", 1);
            fault("h1 " + number + ";", 3);
            fault("g" + number + " 2;", 1);
            fault("g2 " + number + ";", 3);
            fault(number, 0);
        }
        good("m0;", 1);
        good("t0;", 1);
        good("h0 0;", 1);
        good("g5 4;h10 0;t10;", 3);
        fault("h 0 0 0;", 6);
        fault("t0 0;", 3);
    }

    private static boolean isDigit(int letter) {
        return letter >= '0' && letter <= '9';
    }

    private static void eachLetterAlone() {
        CHECK.told("TOKENS are the letters g, h, t, m, NUMBERS and ; . .. of any other letter");
        for (int letter = 0; letter <= 255; letter++) {
            boolean item = "ghtm".indexOf(letter) >= 0;
            int due = letter == 32 ? 0 : item ? -11 : -10;
            CHECK.due("land of letter " + letter, landAnswer("" + (char) letter), due);
            due = letter == 32 ? 0 : item ? -13 : -11;
            CHECK.due("land of a blank, " + letter + ", a blank", landAnswer(" " + (char) letter + " "), due);
        }
    }

    private static void eachLetterForANumber() {
        CHECK.told("the first TOKEN that can't stand there: no NUMBER");
        for (int letter = 0; letter <= 255; letter++) {
            boolean goesOn = letter == 32 || letter >= '0' && letter <= '5';
            CHECK.due("land of t" + letter, landAnswer("t" + (char) letter), goesOn ? -12 : -11);
            goesOn = letter == 32 || isDigit(letter);
            CHECK.due("land of h1 " + letter, landAnswer("h1 " + (char) letter), goesOn ? -14 : -13);
            CHECK.due("land of m" + letter, landAnswer("m" + (char) letter), goesOn ? -12 : -11);
            goesOn = letter == 32 || letter >= '2' && letter <= '5';
            CHECK.due("land of g" + letter, landAnswer("g" + (char) letter), goesOn ? -12 : -11);
            goesOn = letter == 32 || letter >= '2' && letter <= '4';
            CHECK.due("land of g2 " + letter, landAnswer("g2 " + (char) letter), goesOn ? -14 : -13);
        }
    }

    private static void eachLetterForAnEnd() {
        CHECK.told("the first TOKEN that can't stand there: no ;");
        for (int letter = 0; letter <= 255; letter++) {
            int due = letter == ';' ? 1 : letter == 32 ? -14 : -13;
            CHECK.due("land of t1 " + letter, landAnswer("t1 " + (char) letter), due);
            CHECK.due("land of m1 " + letter, landAnswer("m1 " + (char) letter), due);
            due = letter == ';' ? 1 : letter == 32 ? -16 : -15;
            CHECK.due("land of h1 1 " + letter, landAnswer("h1 1 " + (char) letter), due);
            CHECK.due("land of g2 2 " + letter, landAnswer("g2 2 " + (char) letter), due);
        }
    }

    private static void eachLetterForAnItem() {
        CHECK.told("the first TOKEN that can't stand there: no ITEM");
        for (int letter = 0; letter <= 255; letter++) {
            int due = letter == 32 ? 1 : "htm".indexOf(letter) >= 0 ? -14 : -13;
            CHECK.due("land of t0; and " + letter, landAnswer("t0;" + (char) letter), due);
        }
    }

    private static void endsTooEarly() {
        CHECK.told("the text's length, if it ends too early");
        String text = "g5 4;h19 9;t19;m0;";
        int items = 0;
        for (int length = 0; length <= text.length(); length++) {
            String start = text.substring(0, length);
            boolean whole = start.isEmpty() || start.endsWith(";");
            items += length > 0 && whole ? 1 : 0;
            for (int some = 0; some <= 3; some++) {
                String behind = start + " ".repeat(some);
                CHECK.due("land of '" + behind + "'", landAnswer(behind), whole ? items : -10 - behind.length());
            }
        }
        CHECK.due("items of the whole", items, 4);
    }

    private static void firstOfTwoFaults() {
        CHECK.told("FAULT: the place of the first letter of the first TOKEN that can't stand there");
        fault("t6;x", 1);
        fault("x;t6;", 0);
        fault("t6", 1);
        fault("h6 10;", 1);
        fault("h0 10", 3);
        fault("g6 5;", 1);
        fault("g5 5 x", 3);
        fault("m1;m100;", 3);
        fault("m100;m1;", 1);
        fault("m1;g1 x", 3);
        fault("t00 t;", 1);
        fault("t0 x00;", 3);
        fault("t1;t1;t1;t1;t1;", 4);
    }

    private static void behindAFault() {
        CHECK.told("-10 less FAULT: nothing changes (THE TEXT stays, too)");
        WovenRoads x = Check.landOf("g4 2;h7 3;t7;m8;");
        Check.type(x, "m1");
        CHECK.due("too early", x.land(), -12);
        CHECK.due("slope stays", x.count(3), 8);
        CHECK.due("the text goes on", x.type(';'), 3);
        CHECK.due("and is good then", x.land(), 1);
        CHECK.due("slope", x.count(3), 1);
        CHECK.due("towns are gone", x.count(2), 0);
        CHECK.due("w as at first", x.count(0), 3);
        Check.type(x, "g2 2;t0;t1;t2;t3;m3;h0 9;x");
        CHECK.due("a fault at the end", x.land(), -10 - 25);
        CHECK.due("letters", x.clear(), 26);
        CHECK.due("four towns anew, m anew, g anew", Check.tell(x, "g2 2;t0;t1;t2;t3;m3;"), 6);
        CHECK.due("no height of the fault", x.height(0), 0);
    }
}
