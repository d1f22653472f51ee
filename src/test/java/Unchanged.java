import java.util.LinkedHashMap;
import java.util.Map;
import java.util.function.Function;
import java.util.function.Supplier;
import java.util.function.ToLongFunction;

/**
 * Sees that a call changes nothing: what all other calls answer behind it is what they answer on a twin that never
 * had that call. Each probe has twins of its own: what undo(), back() and land() bring is looked at, too, and no
 * object is used for more than 512 calls.
 */
final class Unchanged {
    private static final Map<String, Function<WovenRoads, String>> PROBES = new LinkedHashMap<>();

    static {
        PROBES.put("what there is", Unchanged::looks);
        PROBES.put("what is joined", Unchanged::joins);
        PROBES.put("what undo brings", Unchanged::undone);
        PROBES.put("what back(0) brings", x -> image(x, 0));
        PROBES.put("what back(1) brings", x -> image(x, 1));
        PROBES.put("what land brings", Unchanged::toldLand);
        PROBES.put("what clear brings", x -> x.clear() + " " + x.land() + " " + x.count(0));
        PROBES.put("what goes on", Unchanged::goesOn);
    }

    private Unchanged() {
    }

    /** The call answers as is due, and is as if it had not been. */
    static void by(Check check, String name, Supplier<WovenRoads> start, ToLongFunction<WovenRoads> call, long due) {
        check.due(name, call.applyAsLong(start.get()), due);
        for (Map.Entry<String, Function<WovenRoads, String>> probe : PROBES.entrySet()) {
            WovenRoads x = start.get();
            call.applyAsLong(x);
            String got = probe.getValue().apply(x);
            String want = probe.getValue().apply(start.get());
            check.holds(name + ", " + probe.getKey() + ": " + got + ", without it " + want, got.equals(want));
        }
    }

    /** Land, bolts, roads, numbers of all kinds: 190 calls at most. */
    static String looks(WovenRoads x) {
        StringBuilder all = new StringBuilder(land(x)).append(bolts(x));
        all.append(" roads");
        for (int c = 0; c < 20; c++) {
            for (int card = 0; card < 4; card++) {
                all.append(' ').append(x.road(c, card));
            }
        }
        all.append(" now");
        for (int what = 0; what < 7; what++) {
            all.append(' ').append(x.now(what));
        }
        return all.append(" trace ").append(x.trace()).toString();
    }

    static String land(WovenRoads x) {
        StringBuilder all = new StringBuilder("counts");
        for (int what = 0; what < 5; what++) {
            all.append(' ').append(x.count(what));
        }
        all.append(" heights");
        for (int c = 0; c < 20; c++) {
            all.append(' ').append(x.height(c));
        }
        all.append(" towns");
        for (int t = 0; t < 4; t++) {
            all.append(' ').append(x.town(t));
        }
        return all.toString();
    }

    static String bolts(WovenRoads x) {
        StringBuilder all = new StringBuilder(" bolts");
        int size = x.now(0);
        for (int b = 0; b < size; b++) {
            all.append(' ').append(x.bolt(b, 0)).append(':');
            int length = x.bolt(b, 2);
            for (int i = 0; i < length; i++) {
                all.append(x.card(b, i));
            }
        }
        return all.toString();
    }

    private static String joins(WovenRoads x) {
        StringBuilder all = new StringBuilder().append(x.toWeave());
        for (int c = 0; c < 20; c++) {
            all.append(' ').append(x.joined(0, c)).append(' ').append(x.way(0, c)).append(' ').append(x.way(c, 7));
            all.append(' ').append(x.wrong(0, c, 0)).append(' ').append(x.wrong(1, c, 1));
        }
        for (int i = 0; i < 14; i++) {
            all.append(' ').append(x.darners(i)).append(' ').append(x.look(0, i)).append(' ').append(x.look(1, i));
        }
        for (int n = 0; n < 7; n++) {
            all.append(' ').append(x.odds(3, n, 0)).append(' ').append(x.odds(3, n, 1));
        }
        return all.toString();
    }

    /** The bolts behind each of all that can be undone, and that no more can be. */
    static String undone(WovenRoads x) {
        StringBuilder all = new StringBuilder();
        for (int i = 0; i < 11; i++) {
            all.append(x.undo()).append(bolts(x)).append("; ");
        }
        return all.append(x.now(6)).toString();
    }

    static String image(WovenRoads x, int image) {
        return x.back(image) + bolts(x) + " known " + x.now(6) + " trace " + x.trace();
    }

    private static String toldLand(WovenRoads x) {
        return x.land() + " " + land(x) + bolts(x) + " known " + x.now(6) + " trace " + x.trace();
    }

    /** The next things done are as they would be. */
    private static String goesOn(WovenRoads x) {
        StringBuilder all = new StringBuilder();
        all.append(x.begins(5)).append(' ').append(x.weaves(0, 1)).append(' ').append(x.weaves(1, 3)).append(' ');
        all.append(x.turnAbout(0)).append(' ').append(x.rain()).append(' ').append(x.rate(4, 0)).append(' ');
        all.append(x.keep(0)).append(' ').append(x.type(';'));
        return all.append(looks(x)).toString();
    }
}
