import java.math.BigInteger;
import java.util.ArrayDeque;
import java.util.ArrayList;
import java.util.Deque;
import java.util.HashMap;
import java.util.HashSet;
import java.util.List;
import java.util.Map;
import java.util.Set;

/**
 * The document told a second time, by trying all there is and with none of the class's ways: whole paths as lists
 * of cells, a matrix of roads, all sets of cells, all rows of nights. RandomRunsTest compares the two.
 */
final class SlowRoads {
    private static final int NEVER = 1_000_000;

    /** A bolt as the list of all cells that it goes over. */
    private List<List<Integer>> bolts = new ArrayList<>();
    private final Deque<List<List<Integer>>> past = new ArrayDeque<>();
    private final Map<Integer, List<List<Integer>>> images = new HashMap<>();
    private StringBuilder text = new StringBuilder();
    private int w = 3;
    private int h = 2;
    private int slope = 9;
    private int[] heights = new int[6];
    private List<Integer> towns = new ArrayList<>();
    private long trace = 0;

    // ---- the land

    int type(int letter) {
        if (letter < 0 || letter > 255) {
            return -1;
        }
        if (text.length() == 200) {
            return -3;
        }
        text.append((char) letter);
        return text.length();
    }

    int clear() {
        int had = text.length();
        text = new StringBuilder();
        return had;
    }

    private record Token(int place, String letters) {
        boolean isNumber() {
            return letters.matches("0|[1-9][0-9]?");
        }

        int number() {
            return Integer.parseInt(letters);
        }
    }

    private List<Token> tokens() {
        List<Token> tokens = new ArrayList<>();
        int i = 0;
        while (i < text.length()) {
            int end = i + 1;
            if (Character.digit(text.charAt(i), 10) >= 0) {
                while (end < text.length() && Character.digit(text.charAt(end), 10) >= 0) {
                    end++;
                }
            }
            if (text.charAt(i) != ' ') {
                tokens.add(new Token(i, text.substring(i, end)));
            }
            i = end;
        }
        tokens.add(new Token(text.length(), "the end"));
        return tokens;
    }

    int land() {
        int newW = 3;
        int newH = 2;
        int newSlope = 9;
        boolean slopeTold = false;
        int[] newHeights = new int[20];
        List<Integer> newTowns = new ArrayList<>();
        int items = 0;
        List<Token> tokens = tokens();
        int at = 0;
        while (at < tokens.size() - 1) {
            Token name = tokens.get(at);
            int numbers;
            switch (name.letters()) {
                case "g" -> numbers = items == 0 ? 2 : 0;
                case "h" -> numbers = 2;
                case "t" -> numbers = newTowns.size() < 4 ? 1 : 0;
                case "m" -> numbers = slopeTold ? 0 : 1;
                default -> numbers = 0;
            }
            if (numbers == 0) {
                return -10 - name.place();
            }
            int[] told = new int[2];
            for (int k = 0; k < numbers; k++) {
                Token token = tokens.get(at + 1 + k);
                boolean cell = k == 0 && (name.letters().equals("h") || name.letters().equals("t"));
                int low = name.letters().equals("g") ? 2 : 0;
                int high = cell ? newW * newH - 1 : low == 2 ? 5 - k : 9;
                if (!token.isNumber() || token.number() < low || token.number() > high
                        || name.letters().equals("t") && newTowns.contains(token.number())) {
                    return -10 - token.place();
                }
                told[k] = token.number();
            }
            Token end = tokens.get(at + 1 + numbers);
            if (!end.letters().equals(";")) {
                return -10 - end.place();
            }
            switch (name.letters()) {
                case "g" -> {
                    newW = told[0];
                    newH = told[1];
                }
                case "h" -> newHeights[told[0]] = told[1];
                case "t" -> newTowns.add(told[0]);
                default -> {
                    newSlope = told[0];
                    slopeTold = true;
                }
            }
            items++;
            at += numbers + 2;
        }
        w = newW;
        h = newH;
        slope = newSlope;
        heights = newHeights;
        towns = newTowns;
        text = new StringBuilder();
        bolts = new ArrayList<>();
        past.clear();
        images.clear();
        return items;
    }

    private int cells() {
        return w * h;
    }

    private boolean noCell(int c) {
        return c < 0 || c >= cells();
    }

    private boolean noBolt(int b) {
        return b < 0 || b >= bolts.size();
    }

    int height(int c) {
        return noCell(c) ? -1 : heights[c];
    }

    int town(int t) {
        return t < 0 || t >= towns.size() ? -1 : towns.get(t);
    }

    private int last(List<Integer> path) {
        return path.get(path.size() - 1);
    }

    private int up(List<Integer> path) {
        int up = 0;
        for (int i = 1; i < path.size(); i++) {
            int step = heights[path.get(i)] - heights[path.get(i - 1)];
            up += step > 0 ? step : 0;
        }
        return up;
    }

    int bolt(int b, int what) {
        if (noBolt(b) || what < 0 || what > 3) {
            return -1;
        }
        List<Integer> path = bolts.get(b);
        return new int[] {path.get(0), last(path), path.size() - 1, up(path)}[what];
    }

    private int cardBetween(int from, int to) {
        for (int card = 0; card < 4; card++) {
            if (beside(from, card) == to) {
                return card;
            }
        }
        throw new IllegalStateException("not NEXT");
    }

    /** By rows and columns; -1 off the land. */
    private int beside(int c, int card) {
        int row = c / w + new int[] {-1, 0, 1, 0}[card];
        int column = c % w + new int[] {0, 1, 0, -1}[card];
        return row < 0 || row >= h || column < 0 || column >= w ? -1 : row * w + column;
    }

    private boolean steepAbove(int a, int b, int most) {
        return Math.abs(heights[a] - heights[b]) > most;
    }

    int card(int b, int i) {
        if (noBolt(b) || i < 0 || i >= bolts.get(b).size() - 1) {
            return -1;
        }
        return cardBetween(bolts.get(b).get(i), bolts.get(b).get(i + 1));
    }

    private boolean[][] roads(List<List<Integer>> paths) {
        boolean[][] roads = new boolean[20][20];
        for (List<Integer> path : paths) {
            for (int i = 1; i < path.size(); i++) {
                roads[path.get(i)][path.get(i - 1)] = true;
                roads[path.get(i - 1)][path.get(i)] = true;
            }
        }
        return roads;
    }

    private boolean[][] allowed(int most) {
        boolean[][] allowed = new boolean[20][20];
        for (int c = 0; c < cells(); c++) {
            for (int card = 0; card < 4; card++) {
                int to = beside(c, card);
                if (to >= 0 && !steepAbove(c, to, most)) {
                    allowed[c][to] = true;
                }
            }
        }
        return allowed;
    }

    int road(int c, int card) {
        if (noCell(c) || card < 0 || card > 3) {
            return -1;
        }
        int to = beside(c, card);
        return to >= 0 && roads(bolts)[c][to] ? 1 : 0;
    }

    /** How many ells by roads between any two cells. */
    private int[][] distances(boolean[][] roads) {
        int[][] cost = new int[20][20];
        for (int a = 0; a < 20; a++) {
            for (int b = 0; b < 20; b++) {
                cost[a][b] = roads[a][b] ? 1 : NEVER;
            }
        }
        return closed(cost);
    }

    private int[][] closed(int[][] cost) {
        for (int a = 0; a < 20; a++) {
            cost[a][a] = 0;
        }
        for (int over = 0; over < 20; over++) {
            for (int a = 0; a < 20; a++) {
                for (int b = 0; b < 20; b++) {
                    cost[a][b] = Math.min(cost[a][b], cost[a][over] + cost[over][b]);
                }
            }
        }
        return cost;
    }

    private int pieces(boolean[][] roads) {
        int[][] far = distances(roads);
        List<Integer> heads = new ArrayList<>();
        for (int town : towns) {
            if (heads.stream().noneMatch(head -> far[head][town] < NEVER)) {
                heads.add(town);
            }
        }
        return heads.size();
    }

    int now(int what) {
        switch (what) {
            case 0:
                return bolts.size();
            case 1:
                return bolts.stream().mapToInt(path -> path.size() - 1).sum();
            case 2:
                return pieces(roads(bolts));
            case 3:
                int bits = 0;
                for (int b = 0; b < bolts.size(); b++) {
                    if (bolts.get(b).size() > 1 && bolts.get(b).stream().noneMatch(towns::contains)) {
                        bits += Math.pow(2, b);
                    }
                }
                return bits;
            case 4:
                int steep = -9;
                for (List<Integer> path : bolts) {
                    for (int i = 1; i < path.size(); i++) {
                        steep = Math.max(steep, Math.abs(heights[path.get(i)] - heights[path.get(i - 1)]));
                    }
                }
                return steep;
            case 5:
                int least = 0;
                while (pieces(allowed(least)) > 1) {
                    least++;
                }
                return least;
            case 6:
                return past.size();
            default:
                return -1;
        }
    }

    // ---- what is done

    private List<List<Integer>> copy(List<List<Integer>> paths) {
        List<List<Integer>> copy = new ArrayList<>();
        for (List<Integer> path : paths) {
            copy.add(new ArrayList<>(path));
        }
        return copy;
    }

    private void remember() {
        past.addLast(copy(bolts));
        if (past.size() > 10) {
            past.removeFirst();
        }
    }

    int begins(int c) {
        if (noCell(c)) {
            return -1;
        }
        if (bolts.size() == 4) {
            return -3;
        }
        remember();
        bolts.add(new ArrayList<>(List.of(c)));
        return bolts.size() - 1;
    }

    int weaves(int b, int card) {
        if (noBolt(b) || card < 0 || card > 3) {
            return -1;
        }
        int from = last(bolts.get(b));
        int to = beside(from, card);
        if (to < 0 || steepAbove(from, to, slope)) {
            return -2;
        }
        if (bolts.get(b).size() == 13) {
            return -3;
        }
        remember();
        bolts.get(b).add(to);
        return to;
    }

    int turnAbout(int b) {
        if (noBolt(b)) {
            return -1;
        }
        remember();
        java.util.Collections.reverse(bolts.get(b));
        return bolts.get(b).get(0);
    }

    private int rainOn(List<List<Integer>> paths) {
        int lost = 0;
        for (List<Integer> path : paths) {
            if (path.size() > 1 && !towns.contains(last(path))) {
                path.remove(path.size() - 1);
                lost++;
            }
        }
        return lost;
    }

    int rain() {
        remember();
        return rainOn(bolts);
    }

    int undo() {
        if (past.isEmpty()) {
            return -2;
        }
        bolts = past.removeLast();
        return past.size();
    }

    // ---- what is joined

    int joined(int a, int b) {
        if (noCell(a) || noCell(b)) {
            return -1;
        }
        return distances(roads(bolts))[a][b] < NEVER ? 1 : 0;
    }

    /** A set of cells that could be one piece needs an ell for each part of it that roads do not join, less 1. */
    int toWeave() {
        if (towns.isEmpty()) {
            return 0;
        }
        int[] roads = bits(roads(bolts));
        int[] allowed = bits(allowed(slope));
        int must = 0;
        for (int town : towns) {
            must |= 1 << town;
        }
        int best = NEVER;
        for (int set = 0; set < 1 << cells(); set++) {
            if ((set & must) == must && parts(set, allowed, 2) == 1) {
                best = Math.min(best, parts(set, roads, best + 1) - 1);
            }
        }
        return best == NEVER ? -9 : best;
    }

    private int[] bits(boolean[][] matrix) {
        int[] bits = new int[20];
        for (int a = 0; a < 20; a++) {
            for (int b = 0; b < 20; b++) {
                bits[a] |= matrix[a][b] ? 1 << b : 0;
            }
        }
        return bits;
    }

    private int parts(int set, int[] links, int enough) {
        int parts = 0;
        int left = set;
        while (left != 0 && parts < enough) {
            parts++;
            int todo = Integer.lowestOneBit(left);
            left &= ~todo;
            while (todo != 0) {
                int next = links[Integer.numberOfTrailingZeros(todo)] & left;
                todo = todo & (todo - 1) | next;
                left &= ~next;
            }
        }
        return parts;
    }

    private boolean isSeam(int c) {
        return bolts.stream().filter(path -> path.size() > 1 && (path.get(0) == c || last(path) == c)).count() >= 2;
    }

    int way(int a, int b) {
        if (noCell(a) || noCell(b)) {
            return -1;
        }
        boolean[][] roads = roads(bolts);
        int[][] cost = new int[20][20];
        for (int from = 0; from < 20; from++) {
            for (int to = 0; to < 20; to++) {
                cost[from][to] = !roads[from][to] ? NEVER
                        : 1 + Math.max(0, heights[to] - heights[from]) + (isSeam(to) ? 1 : 0);
            }
        }
        int least = closed(cost)[a][b];
        return least >= NEVER ? -9 : least;
    }

    int darners(int d) {
        if (d < 0 || d > 20) {
            return -1;
        }
        int[][] far = distances(roads(bolts));
        Set<Integer> withRoad = new HashSet<>();
        for (List<Integer> path : bolts) {
            if (path.size() > 1) {
                withRoad.addAll(path);
            }
        }
        for (int few = 0; few <= towns.size(); few++) {
            for (int set = 0; set < 1 << towns.size(); set++) {
                List<Integer> chosen = new ArrayList<>();
                for (int t = 0; t < towns.size(); t++) {
                    if ((set >> t) % 2 == 1) {
                        chosen.add(towns.get(t));
                    }
                }
                if (chosen.size() == few
                        && withRoad.stream().allMatch(c -> chosen.stream().anyMatch(town -> far[town][c] <= d))) {
                    return set;
                }
            }
        }
        return -9;
    }

    int odds(int p, int n, int what) {
        if (p < 0 || p > 10 || n < 0 || n > 6 || what < 0 || what > 1) {
            return -1;
        }
        BigInteger upper = BigInteger.ZERO;
        for (int nights = 0; nights < 1 << n; nights++) {
            BigInteger chance = BigInteger.ONE;
            List<List<Integer>> left = copy(bolts);
            for (int night = 0; night < n; night++) {
                boolean wet = (nights >> night & 1) == 1;
                chance = chance.multiply(BigInteger.valueOf(wet ? p : 10 - p));
                if (wet) {
                    rainOn(left);
                }
            }
            if (pieces(roads(left)) <= 1) {
                upper = upper.add(chance);
            }
        }
        BigInteger lower = BigInteger.TEN.pow(n);
        BigInteger common = upper.gcd(lower);
        return (what == 0 ? upper : lower).divide(common).intValueExact();
    }

    // ---- wrong cards

    /** All paths that a bolt could be with just one other card, by 4 times which card, and the other card. */
    private Map<Integer, List<Integer>> changed(int b) {
        List<Integer> path = bolts.get(b);
        Map<Integer, List<Integer>> all = new java.util.TreeMap<>();
        for (int i = 0; i + 1 < path.size(); i++) {
            for (int other = 0; other < 4; other++) {
                List<Integer> other1 = new ArrayList<>(List.of(path.get(0)));
                for (int k = 0; k + 1 < path.size() && last(other1) >= 0; k++) {
                    int card = k == i ? other : card(b, k);
                    int from = last(other1);
                    int to = beside(from, card);
                    other1.add(to >= 0 && steepAbove(from, to, slope) ? -1 : to);
                }
                if (last(other1) >= 0 && other != card(b, i)) {
                    all.put(4 * i + other, other1);
                }
            }
        }
        return all;
    }

    int wrong(int b, int c, int what) {
        if (noBolt(b) || noCell(c) || what < 0 || what > 1) {
            return -1;
        }
        List<Integer> ways = new ArrayList<>();
        changed(b).forEach((change, path) -> {
            if (last(path) == c) {
                ways.add(change);
            }
        });
        return what == 0 ? ways.size() : ways.isEmpty() ? -9 : ways.get(0);
    }

    int look(int b, int i) {
        if (noBolt(b) || i < 1 || i >= bolts.get(b).size()) {
            return -1;
        }
        Set<Integer> there = new HashSet<>();
        changed(b).values().forEach(path -> there.add(path.get(i)));
        there.remove(bolts.get(b).get(i));
        return there.size();
    }

    // ---- kinds, images

    int rate(int kind, int b) {
        if (noBolt(b) || kind < 0 || kind > 5) {
            return -1000000;
        }
        trace += new int[] {1, 11, 101, 1011, 10101, 100001}[kind];
        int cards = bolts.get(b).size() - 1;
        int end = last(bolts.get(b));
        int up = up(bolts.get(b));
        return switch (kind) {
            case 0 -> cards;
            case 1 -> cards + end;
            case 2 -> cards - up;
            case 3 -> 2 * (cards + end);
            case 4 -> cards - up + b;
            default -> cards + pieces(roads(bolts));
        };
    }

    int keep(int image) {
        if (image != 0 && image != 1) {
            return -1;
        }
        images.put(image, copy(bolts));
        return bolts.size();
    }

    int back(int image) {
        if (image != 0 && image != 1) {
            return -1;
        }
        if (!images.containsKey(image)) {
            return -2;
        }
        bolts = copy(images.get(image));
        past.clear();
        return bolts.size();
    }

    int count(int what) {
        return what < 0 || what > 4 ? -1 : new int[] {w, h, towns.size(), slope, text.length()}[what];
    }

    long trace() {
        return trace;
    }
}
