import java.util.Random;

/**
 * Runs of calls by chance (the same ones each time) on the class and on SlowRoads, up to 512 calls on an object:
 * each answer must be the same. An argument tells how many runs.
 */
public final class RandomRunsTest {
    private static final int CALLS = 512;
    private static final int[] ODD_NUMBERS = {
        -1, -2, 4, 5, 6, 7, 10, 11, 12, 13, 20, 21, 99, 256, 1 << 30, Integer.MIN_VALUE, Integer.MAX_VALUE
    };

    private final Random chance;
    private final WovenRoads x = new WovenRoads();
    private final SlowRoads slow = new SlowRoads();
    private final StringBuilder told = new StringBuilder();
    private int calls = 0;
    private long wrong = 0;

    private RandomRunsTest(long seed) {
        chance = new Random(seed);
    }

    public static void main(String[] args) {
        int runs = args.length > 0 ? Integer.parseInt(args[0]) : 2000;
        long wrong = 0;
        for (int run = 0; run < runs && wrong == 0; run++) {
            RandomRunsTest test = new RandomRunsTest(run);
            test.run();
            wrong += test.wrong;
            if (test.wrong > 0) {
                System.out.println("run " + run + " of calls:\n" + test.told);
            }
        }
        System.out.println("RandomRunsTest: " + runs + " runs, " + wrong + " answers not as due");
        if (wrong != 0) {
            System.exit(1);
        }
    }

    private void run() {
        tellLand();
        while (calls < CALLS && wrong == 0) {
            int kind = chance.nextInt(100);
            if (kind < 1) {
                tellLand();
            } else if (kind < 2) {
                typeSome();
            } else if (kind < 25) {
                weaveOn();
            } else {
                anyCall(chance.nextInt(27));
            }
        }
    }

    private void same(String call, long got, long due) {
        calls++;
        if (calls > CALLS) {
            return;
        }
        told.append(call).append(" = ").append(got).append('\n');
        if (got != due) {
            wrong++;
            told.append("  due is ").append(due).append('\n');
        }
    }

    private void type(int letter) {
        same("type(" + letter + ")", x.type(letter), slow.type(letter));
    }

    /** A land that is mostly good, with a letter changed, left out or put in now and then. */
    private void tellLand() {
        same("clear()", x.clear(), slow.clear());
        StringBuilder text = new StringBuilder();
        int cells = 6;
        if (chance.nextInt(8) > 0) {
            int w = 2 + chance.nextInt(4);
            int h = 2 + chance.nextInt(3);
            cells = w * h;
            text.append("g").append(w).append(" ").append(h).append(";");
        }
        int steps = chance.nextInt(3) == 0 ? 10 : 4;
        for (int n = chance.nextInt(9); n > 0; n--) {
            text.append("h").append(chance.nextInt(cells)).append(" ").append(chance.nextInt(steps)).append(";");
        }
        for (int n = chance.nextInt(5); n > 0; n--) {
            text.append("t").append(chance.nextInt(cells)).append(" ;");
        }
        if (chance.nextInt(2) == 0) {
            text.append("m ").append(chance.nextInt(10)).append(";");
        }
        if (chance.nextInt(3) == 0) {
            spoil(text);
        }
        for (int i = 0; i < text.length(); i++) {
            type(text.charAt(i));
        }
        same("land()", x.land(), slow.land());
    }

    private void spoil(StringBuilder text) {
        String letters = "ghtm; 0123456789x\t";
        char letter = letters.charAt(chance.nextInt(letters.length()));
        int place = chance.nextInt(text.length() + 1);
        if (place == text.length() || chance.nextInt(3) == 0) {
            text.insert(place, letter);
        } else if (chance.nextInt(2) == 0) {
            text.setCharAt(place, letter);
        } else {
            text.setLength(place);
        }
    }

    private void typeSome() {
        String letters = "ghtm;; 0123456789";
        for (int n = chance.nextInt(12); n > 0; n--) {
            type(letters.charAt(chance.nextInt(letters.length())));
        }
    }

    private void weaveOn() {
        if (chance.nextInt(10) == 0) {
            int c = chance.nextInt(20);
            same("begins(" + c + ")", x.begins(c), slow.begins(c));
        }
        int b = aBolt();
        for (int n = 1 + chance.nextInt(3); n > 0; n--) {
            int card = chance.nextInt(4);
            same("weaves(" + b + ", " + card + ")", x.weaves(b, card), slow.weaves(b, card));
        }
    }

    private int number(int below) {
        return chance.nextInt(25) == 0 ? ODD_NUMBERS[chance.nextInt(ODD_NUMBERS.length)] : chance.nextInt(below);
    }

    private int cell() {
        return number(Math.max(1, slow.count(0) * slow.count(1)));
    }

    private int aBolt() {
        return number(Math.max(1, slow.now(0)));
    }

    private void anyCall(int call) {
        if (call < 9) {
            landCall(call);
        } else if (call < 14) {
            doneCall(call);
        } else {
            otherCall(call);
        }
    }

    private void landCall(int call) {
        int b = aBolt();
        int c = cell();
        int what = number(4);
        switch (call) {
            case 0 -> type(number(256));
            case 1 -> same("height(" + c + ")", x.height(c), slow.height(c));
            case 2 -> same("town(" + what + ")", x.town(what), slow.town(what));
            case 3 -> same("bolt(" + b + ", " + what + ")", x.bolt(b, what), slow.bolt(b, what));
            case 4 -> {
                int i = number(13);
                same("card(" + b + ", " + i + ")", x.card(b, i), slow.card(b, i));
            }
            case 5 -> same("road(" + c + ", " + what + ")", x.road(c, what), slow.road(c, what));
            case 6 -> {
                int n = number(7);
                same("now(" + n + ")", x.now(n), slow.now(n));
            }
            case 7 -> {
                int n = number(5);
                same("count(" + n + ")", x.count(n), slow.count(n));
            }
            default -> same("trace()", x.trace(), slow.trace());
        }
    }

    private void doneCall(int call) {
        int b = aBolt();
        int c = cell();
        int card = number(4);
        switch (call) {
            case 9 -> same("begins(" + c + ")", x.begins(c), slow.begins(c));
            case 10 -> same("weaves(" + b + ", " + card + ")", x.weaves(b, card), slow.weaves(b, card));
            case 11 -> same("turnAbout(" + b + ")", x.turnAbout(b), slow.turnAbout(b));
            case 12 -> {
                if (chance.nextInt(2) == 0) {
                    same("rain()", x.rain(), slow.rain());
                }
            }
            default -> {
                if (chance.nextInt(2) == 0) {
                    same("undo()", x.undo(), slow.undo());
                }
            }
        }
    }

    private void otherCall(int call) {
        int b = aBolt();
        int a = cell();
        int c = cell();
        int what = number(2);
        switch (call) {
            case 14, 15 -> same("joined(" + a + ", " + c + ")", x.joined(a, c), slow.joined(a, c));
            case 16 -> {
                if (slow.count(0) * slow.count(1) < 16 || chance.nextInt(30) == 0) {
                    same("toWeave()", x.toWeave(), slow.toWeave());
                }
            }
            case 17, 18 -> same("way(" + a + ", " + c + ")", x.way(a, c), slow.way(a, c));
            case 19 -> {
                int d = number(chance.nextInt(2) == 0 ? 21 : 6);
                same("darners(" + d + ")", x.darners(d), slow.darners(d));
            }
            case 20 -> {
                int p = number(11);
                int n = number(7);
                same("odds(" + p + ", " + n + ", " + what + ")", x.odds(p, n, what), slow.odds(p, n, what));
            }
            case 21, 22 -> same("wrong(" + b + ", " + c + ", " + what + ")", x.wrong(b, c, what),
                    slow.wrong(b, c, what));
            case 23 -> {
                int i = number(13);
                same("look(" + b + ", " + i + ")", x.look(b, i), slow.look(b, i));
            }
            case 24 -> {
                int kind = number(6);
                same("rate(" + kind + ", " + b + ")", x.rate(kind, b), slow.rate(kind, b));
            }
            case 25 -> same("keep(" + what + ")", x.keep(what), slow.keep(what));
            default -> {
                if (chance.nextInt(3) == 0) {
                    same("back(" + what + ")", x.back(what), slow.back(what));
                }
            }
        }
    }
}
