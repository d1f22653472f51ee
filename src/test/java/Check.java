/** What the project's tests share: calls compared with what is due, and short ways to tell a land and weave bolts. */
final class Check {
    private int passed = 0;
    private int failed = 0;
    private String sentence = "";

    /** The words of the document on which the checks that follow stand: they are printed with what is not as due. */
    void told(String words) {
        sentence = " [" + words + "]";
    }

    void due(String call, long got, long want) {
        if (got == want) {
            passed++;
        } else {
            failed++;
            System.out.println(call + " answered " + got + ", due is " + want + sentence);
        }
    }

    void holds(String what, boolean held) {
        due(what, held ? 1 : 0, 1);
    }

    /** Prints the sum, and ends the program with 1 if a call was wrong. */
    void finish(String test) {
        System.out.println(test + ": " + passed + " as due, " + failed + " not");
        if (failed != 0) {
            System.exit(1);
        }
    }

    static void type(WovenRoads x, String text) {
        for (int i = 0; i < text.length(); i++) {
            x.type(text.charAt(i));
        }
    }

    /** The answer of land() to a text. */
    static int tell(WovenRoads x, String text) {
        x.clear();
        type(x, text);
        return x.land();
    }

    static WovenRoads landOf(String text) {
        WovenRoads x = new WovenRoads();
        int items = tell(x, text);
        if (items < 0) {
            throw new IllegalArgumentException("the test's own text has a fault: " + text);
        }
        return x;
    }

    /** A bolt more, with its cards given as digits: its number. */
    static int addBolt(WovenRoads x, int cell, String cards) {
        int b = x.begins(cell);
        for (int i = 0; i < cards.length(); i++) {
            if (x.weaves(b, cards.charAt(i) - '0') < 0) {
                throw new IllegalArgumentException("the test's own bolt can't be woven: " + cards);
            }
        }
        return b;
    }

    /** A bolt as text: its first cell, and its cards as digits. */
    static String boltText(WovenRoads x, int b) {
        StringBuilder text = new StringBuilder();
        text.append(x.bolt(b, 0)).append(':');
        for (int i = 0; i < x.bolt(b, 2); i++) {
            text.append(x.card(b, i));
        }
        return text.toString();
    }

    void boltIs(WovenRoads x, int b, String want) {
        String got = boltText(x, b);
        holds("bolt " + b + " is " + got + ", due is " + want, got.equals(want));
    }
}
