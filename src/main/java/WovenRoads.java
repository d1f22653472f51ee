/**
 * A loom that weaves roads over a land: bolts of cards laid cell by cell, what they join, and what rain
 * leaves of them. The document shared/DOC.md tells each call as a numbered promise; words that it writes in
 * capitals stand here in small letters with the same meaning.
 *
 * <p>Sets of cells are the bits of one int (a land has 20 cells at most): so roads spread over the whole land
 * in a few steps, and no call makes an object.
 */
public final class WovenRoads {
    public static final int BAD = -1, STATE = -2, FULL = -3, NONE = -9;
    /** What none is, where a number may be below 0. */
    public static final int NO = -1000000;

    private static final int LEAST_SIDE = 2;
    private static final int MOST_WIDE = 5;
    private static final int MOST_DEEP = 4;
    private static final int MOST_CELLS = MOST_WIDE * MOST_DEEP;
    private static final int MOST_HEIGHT = 9;
    private static final int MOST_SLOPE = 9;
    private static final int MOST_TOWNS = 4;
    private static final int MOST_LETTERS = 200;
    private static final int GREATEST_LETTER = 255;
    private static final int MOST_BOLTS = 4;
    private static final int MOST_CARDS = 12;
    private static final int MOST_UNDONE = 10;
    private static final int IMAGES = 2;
    private static final int MOST_ELLS_TO_DARNER = 20;
    private static final int SURE = 10;
    private static final int MOST_NIGHTS = 6;

    private static final int UP = 0, RIGHT = 1, DOWN = 2, LEFT = 3;
    private static final int CARDS = 4;
    /** Where a card leads that leads to no cell. */
    private static final int OFF = -1;

    private final Land ground = new Land();
    private final LandText text = new LandText();
    private final Bolts bolts = new Bolts(ground);
    private final Past past = new Past(bolts);
    private final Row images = new Row(IMAGES * Bolts.NUMBERS);
    private int keptImages = 0;
    private final Roads roads = new Roads(ground);
    private final Walk walk = new Walk(ground, bolts, roads);
    private final Weaving weaving = new Weaving(ground, roads);
    private final Odds fortune = new Odds(ground);
    private final Rates rates = new Rates(bolts, roads);

    /** Flat, 3 wide and 2 deep, without towns and bolts. */
    public WovenRoads() {
    }

    // ---- the land

    public int type(int letter) {
        if (letter < 0 || letter > GREATEST_LETTER) {
            return BAD;
        }
        return text.add(letter) ? text.size() : FULL;
    }

    public int clear() {
        int had = text.size();
        text.empty();
        return had;
    }

    public int land() {
        int items = text.read();
        if (items < 0) {
            return items;
        }
        ground.become(text.told());
        text.empty();
        bolts.removeAll();
        past.forget();
        keptImages = 0;
        return items;
    }

    public int height(int c) {
        return ground.hasCell(c) ? ground.heightAt(c) : BAD;
    }

    public int town(int t) {
        return t >= 0 && t < ground.towns() ? ground.townCell(t) : BAD;
    }

    public int bolt(int b, int what) {
        if (!bolts.has(b)) {
            return BAD;
        }
        switch (what) {
            case 0: return bolts.firstCell(b);
            case 1: return bolts.lastCell(b);
            case 2: return bolts.length(b);
            case 3: return bolts.climb(b);
            default: return BAD;
        }
    }

    public int card(int b, int i) {
        return bolts.has(b) && i >= 0 && i < bolts.length(b) ? bolts.cardAt(b, i) : BAD;
    }

    public int road(int c, int card) {
        if (!ground.hasCell(c) || !isCard(card)) {
            return BAD;
        }
        roads.lay(bolts);
        return roads.goes(c, card) ? 1 : 0;
    }

    public int now(int what) {
        roads.lay(bolts);
        switch (what) {
            case 0: return bolts.size();
            case 1: return bolts.ells();
            case 2: return roads.pieces();
            case 3: return bolts.toNowhere();
            case 4: return roads.steepest();
            case 5: return weaving.leastSlope();
            case 6: return past.known();
            default: return BAD;
        }
    }

    // ---- what is done

    public int begins(int c) {
        if (!ground.hasCell(c)) {
            return BAD;
        }
        if (bolts.size() >= MOST_BOLTS) {
            return FULL;
        }
        past.remember();
        return bolts.begin(c);
    }

    public int weaves(int b, int card) {
        if (!bolts.has(b) || !isCard(card)) {
            return BAD;
        }
        int end = ground.cellBy(bolts.lastCell(b), card);
        if (end == OFF) {
            return STATE;
        }
        if (bolts.length(b) >= MOST_CARDS) {
            return FULL;
        }
        past.remember();
        bolts.weave(b, card);
        return end;
    }

    public int turnAbout(int b) {
        if (!bolts.has(b)) {
            return BAD;
        }
        past.remember();
        bolts.turn(b);
        return bolts.firstCell(b);
    }

    public int rain() {
        past.remember();
        return bolts.fray();
    }

    public int undo() {
        return past.takeBack() ? past.known() : STATE;
    }

    // ---- what is joined

    public int joined(int a, int b) {
        if (!ground.hasCell(a) || !ground.hasCell(b)) {
            return BAD;
        }
        roads.lay(bolts);
        return (roads.reach(bit(a), MOST_CELLS) & bit(b)) != 0 ? 1 : 0;
    }

    public int toWeave() {
        roads.lay(bolts);
        return weaving.fewestElls();
    }

    public int way(int a, int b) {
        if (!ground.hasCell(a) || !ground.hasCell(b)) {
            return BAD;
        }
        roads.lay(bolts);
        return walk.soonest(a, b);
    }

    public int darners(int d) {
        if (d < 0 || d > MOST_ELLS_TO_DARNER) {
            return BAD;
        }
        roads.lay(bolts);
        return roads.fewestDarners(d);
    }

    public int odds(int p, int n, int what) {
        if (p < 0 || p > SURE || n < 0 || n > MOST_NIGHTS || what < 0 || what > 1) {
            return BAD;
        }
        int upper = fortune.upperNumber(bolts, p, n);
        int lower = fortune.lowerNumber(n);
        int common = commonDivisor(upper, lower);
        int asked = what == 0 ? upper : lower;
        return common > 0 ? asked / common : asked;
    }

    // ---- wrong cards

    public int wrong(int b, int c, int what) {
        if (!bolts.has(b) || !ground.hasCell(c) || what < 0 || what > 1) {
            return BAD;
        }
        int length = bolts.length(b);
        int ways = 0;
        int first = NONE;
        for (int change = 0; change < length * CARDS; change++) {
            if (bolts.cellIf(b, change, length) == c) {
                first = ways == 0 ? change : first;
                ways++;
            }
        }
        return what == 0 ? ways : first;
    }

    public int look(int b, int i) {
        if (!bolts.has(b) || i < 1 || i > bolts.length(b)) {
            return BAD;
        }
        int seen = 0;
        for (int change = 0; change < bolts.length(b) * CARDS; change++) {
            int cell = bolts.cellIf(b, change, i);
            seen |= cell == OFF ? 0 : bit(cell);
        }
        return Integer.bitCount(seen & ~bit(bolts.cellBehind(b, i)));
    }

    // ---- kinds, images

    public int rate(int kind, int b) {
        if (!bolts.has(b)) {
            return NO;
        }
        switch (kind) {
            case 0: return rates.asBolt(b);
            case 1: return rates.asLane(b);
            case 2: return rates.asToll(b);
            case 3: return rates.asTrack(b);
            case 4: return rates.asMoth(b);
            case 5: return rates.asDream(b);
            default: return NO;
        }
    }

    public int keep(int image) {
        if (!isImage(image)) {
            return BAD;
        }
        bolts.copyTo(images, image);
        keptImages |= bit(image);
        return bolts.size();
    }

    public int back(int image) {
        if (!isImage(image)) {
            return BAD;
        }
        if ((keptImages & bit(image)) == 0) {
            return STATE;
        }
        bolts.copyFrom(images, image);
        past.forget();
        return bolts.size();
    }

    public int count(int what) {
        switch (what) {
            case 0: return ground.wide();
            case 1: return ground.deep();
            case 2: return ground.towns();
            case 3: return ground.slope();
            case 4: return text.size();
            default: return BAD;
        }
    }

    public long trace() {
        return rates.traced();
    }

    private static boolean isCard(int card) {
        return card >= 0 && card < CARDS;
    }

    private static boolean isImage(int image) {
        return image >= 0 && image < IMAGES;
    }

    private static int bit(int place) {
        return 1 << place;
    }

    private static int commonDivisor(int a, int b) {
        int greater = a;
        int rest = b;
        for (int turn = 0; turn < 64 && rest != 0; turn++) {
            int next = greater % rest;
            greater = rest;
            rest = next;
        }
        return greater;
    }

    /** Numbers in places that are looked at before they are used: outside a row is 0, and nothing is kept there. */
    private static final class Row {
        private final int[] numbers;

        Row(int length) {
            numbers = new int[Math.max(length, 0)];
        }

        int get(int place) {
            return place >= 0 && place < numbers.length ? numbers[place] : 0;
        }

        void put(int place, int number) {
            if (place >= 0 && place < numbers.length) {
                numbers[place] = number;
            }
        }

        void fill(int number) {
            for (int place = 0; place < numbers.length; place++) {
                numbers[place] = number;
            }
        }
    }

    /** Cells with heights, towns on some of them, and the slope that a road can take. */
    private static final class Land {
        private int wide;
        private int deep;
        private int slope;
        private int towns;
        private final Row heights = new Row(MOST_CELLS);
        private final Row townCells = new Row(MOST_TOWNS);

        Land() {
            becomeFirst();
        }

        void becomeFirst() {
            wide = 3;
            deep = 2;
            slope = MOST_SLOPE;
            towns = 0;
            heights.fill(0);
        }

        void become(Land other) {
            wide = other.wide;
            deep = other.deep;
            slope = other.slope;
            towns = other.towns;
            for (int cell = 0; cell < MOST_CELLS; cell++) {
                heights.put(cell, other.heights.get(cell));
            }
            for (int t = 0; t < MOST_TOWNS; t++) {
                townCells.put(t, other.townCells.get(t));
            }
        }

        void setSize(int newWide, int newDeep) {
            wide = newWide;
            deep = newDeep;
        }

        void setHeight(int cell, int height) {
            heights.put(cell, height);
        }

        void setSlope(int newSlope) {
            slope = newSlope;
        }

        void addTown(int cell) {
            townCells.put(towns, cell);
            towns++;
        }

        int wide() {
            return wide;
        }

        int deep() {
            return deep;
        }

        int slope() {
            return slope;
        }

        int towns() {
            return towns;
        }

        int cells() {
            return wide * deep;
        }

        boolean hasCell(int cell) {
            return cell >= 0 && cell < cells();
        }

        int heightAt(int cell) {
            return heights.get(cell);
        }

        int townCell(int t) {
            return townCells.get(t);
        }

        boolean isTown(int cell) {
            return (cellsOfTowns(bit(towns) - 1) & bit(cell)) != 0;
        }

        /** The cells of the towns in a set of towns. */
        int cellsOfTowns(int set) {
            int cells = 0;
            for (int t = 0; t < towns; t++) {
                if ((set & bit(t)) != 0) {
                    cells |= bit(townCells.get(t));
                }
            }
            return cells;
        }

        /** The cell to which a card leads; OFF the land. */
        int neighbour(int cell, int card) {
            int column = wide > 0 ? cell % wide : 0;
            switch (card) {
                case UP: return cell - wide >= 0 ? cell - wide : OFF;
                case RIGHT: return column + 1 < wide ? cell + 1 : OFF;
                case DOWN: return cell + wide < cells() ? cell + wide : OFF;
                case LEFT: return column > 0 ? cell - 1 : OFF;
                default: return OFF;
            }
        }

        int step(int from, int to) {
            return heights.get(to) - heights.get(from);
        }

        /** The cell to which an ell can be woven by a card; OFF for a bend at nothing. */
        int cellBy(int cell, int card) {
            int next = neighbour(cell, card);
            return next != OFF && Math.abs(step(cell, next)) <= slope ? next : OFF;
        }
    }

    /** The text that tells a land, and how it is read. */
    private static final class LandText {
        private static final int BLANK = 32;
        /** Tokens that are no letter. */
        private static final int END = -1, NUMBER = -2, NO_NUMBER = -3;
        private static final int MOST_NUMBER = 99;
        private static final int FAULTS_FROM = -10;

        private final Row letters = new Row(MOST_LETTERS);
        private int size = 0;
        /** What has been read, apart from the land in use: a fault must change nothing. */
        private final Land told = new Land();
        private int items;
        private boolean slopeTold;
        private int place;
        private int token;
        private int tokenPlace;
        private int number;

        int size() {
            return size;
        }

        Land told() {
            return told;
        }

        boolean add(int letter) {
            if (size >= MOST_LETTERS) {
                return false;
            }
            letters.put(size, letter);
            size++;
            return true;
        }

        void empty() {
            size = 0;
        }

        /** How many items the text has, and told() is as it tells; or, below 0, where its fault is. */
        int read() {
            told.becomeFirst();
            items = 0;
            slopeTold = false;
            place = 0;
            nextToken();
            while (token != END && items < MOST_LETTERS) {
                if (!readItem()) {
                    return FAULTS_FROM - tokenPlace;
                }
                items++;
                nextToken();
            }
            return items;
        }

        /** This and the readers below answer false at the token that can't stand there. */
        private boolean readItem() {
            switch (token) {
                case 'g': return items == 0 && readSize();
                case 'h': return readHeight();
                case 't': return told.towns() < MOST_TOWNS && readTown();
                case 'm': return !slopeTold && readSlope();
                default: return false;
            }
        }

        private boolean readSize() {
            if (!readNumber(LEAST_SIDE, MOST_WIDE)) {
                return false;
            }
            int wide = number;
            if (!readNumber(LEAST_SIDE, MOST_DEEP)) {
                return false;
            }
            told.setSize(wide, number);
            return readItemEnd();
        }

        private boolean readHeight() {
            if (!readNumber(0, told.cells() - 1)) {
                return false;
            }
            int cell = number;
            if (!readNumber(0, MOST_HEIGHT)) {
                return false;
            }
            told.setHeight(cell, number);
            return readItemEnd();
        }

        private boolean readTown() {
            if (!readNumber(0, told.cells() - 1) || told.isTown(number)) {
                return false;
            }
            told.addTown(number);
            return readItemEnd();
        }

        private boolean readSlope() {
            if (!readNumber(0, MOST_SLOPE)) {
                return false;
            }
            told.setSlope(number);
            slopeTold = true;
            return readItemEnd();
        }

        private boolean readNumber(int least, int most) {
            nextToken();
            return token == NUMBER && number >= least && number <= most;
        }

        private boolean readItemEnd() {
            nextToken();
            return token == ';';
        }

        private void nextToken() {
            while (place < size && letters.get(place) == BLANK) {
                place++;
            }
            tokenPlace = place;
            number = 0;
            while (place < size && isDigit(letters.get(place))) {
                number = Math.min(number * 10 + letters.get(place) - '0', MOST_NUMBER + 1);
                place++;
            }
            int digits = place - tokenPlace;
            if (digits > 0) {
                boolean zeroAhead = digits > 1 && letters.get(tokenPlace) == '0';
                token = zeroAhead || number > MOST_NUMBER ? NO_NUMBER : NUMBER;
            } else if (place < size) {
                token = letters.get(place);
                place++;
            } else {
                token = END;
            }
        }

        private static boolean isDigit(int letter) {
            return letter >= '0' && letter <= '9';
        }
    }

    /** All bolts, as one row of numbers, so that all of them can be kept and brought back at once. */
    private static final class Bolts {
        /** Of a bolt: its first cell, how many cards it has, its cards. */
        private static final int FIRST_CELL = 0, LENGTH = 1, FIRST_CARD = 2;
        private static final int NUMBERS_OF_ONE = FIRST_CARD + MOST_CARDS;
        /** Of all: how many there are, and each of them. */
        private static final int SIZE = 0, FIRST_BOLT = 1;
        static final int NUMBERS = FIRST_BOLT + MOST_BOLTS * NUMBERS_OF_ONE;

        private final Land ground;
        private final Row numbers = new Row(NUMBERS);

        Bolts(Land ground) {
            this.ground = ground;
        }

        void removeAll() {
            numbers.put(SIZE, 0);
        }

        void become(Bolts other) {
            other.copyTo(numbers, 0);
        }

        void copyTo(Row shelf, int slot) {
            for (int i = 0; i < NUMBERS; i++) {
                shelf.put(slot * NUMBERS + i, numbers.get(i));
            }
        }

        void copyFrom(Row shelf, int slot) {
            for (int i = 0; i < NUMBERS; i++) {
                numbers.put(i, shelf.get(slot * NUMBERS + i));
            }
        }

        int size() {
            return numbers.get(SIZE);
        }

        boolean has(int b) {
            return b >= 0 && b < size();
        }

        int firstCell(int b) {
            return numbers.get(placeOf(b) + FIRST_CELL);
        }

        int length(int b) {
            return numbers.get(placeOf(b) + LENGTH);
        }

        int cardAt(int b, int i) {
            return numbers.get(placeOf(b) + FIRST_CARD + i);
        }

        int lastCell(int b) {
            return cellBehind(b, length(b));
        }

        int cellBehind(int b, int cards) {
            int cell = firstCell(b);
            for (int i = 0; i < cards; i++) {
                cell = ground.neighbour(cell, cardAt(b, i));
            }
            return cell;
        }

        /**
         * Where a bolt would be behind some of its cards, if one card were another one (change: 4 times which
         * card, and the other card); OFF, if it is no other one, or any card would be a bend at nothing.
         */
        int cellIf(int b, int change, int cards) {
            int changed = change / CARDS;
            int other = change % CARDS;
            if (cardAt(b, changed) == other) {
                return OFF;
            }
            int cell = firstCell(b);
            int found = cell;
            for (int i = 0; i < length(b); i++) {
                cell = ground.cellBy(cell, i == changed ? other : cardAt(b, i));
                if (cell == OFF) {
                    return OFF;
                }
                found = i < cards ? cell : found;
            }
            return found;
        }

        int begin(int cell) {
            int b = size();
            numbers.put(placeOf(b) + FIRST_CELL, cell);
            numbers.put(placeOf(b) + LENGTH, 0);
            numbers.put(SIZE, b + 1);
            return b;
        }

        void weave(int b, int card) {
            int length = length(b);
            numbers.put(placeOf(b) + FIRST_CARD + length, card);
            numbers.put(placeOf(b) + LENGTH, length + 1);
        }

        void turn(int b) {
            int cards = placeOf(b) + FIRST_CARD;
            numbers.put(placeOf(b) + FIRST_CELL, lastCell(b));
            for (int i = 0, j = length(b) - 1; i <= j; i++, j--) {
                int early = numbers.get(cards + i);
                int late = numbers.get(cards + j);
                numbers.put(cards + i, opposite(late));
                numbers.put(cards + j, opposite(early));
            }
        }

        /** The rain of one night: how many ells it takes. */
        int fray() {
            int lost = 0;
            for (int b = 0; b < size(); b++) {
                int length = length(b);
                if (length > 0 && !ground.isTown(cellBehind(b, length))) {
                    numbers.put(placeOf(b) + LENGTH, length - 1);
                    lost++;
                }
            }
            return lost;
        }

        int ells() {
            int ells = 0;
            for (int b = 0; b < size(); b++) {
                ells += length(b);
            }
            return ells;
        }

        int climb(int b) {
            int climb = 0;
            int cell = firstCell(b);
            for (int i = 0; i < length(b); i++) {
                int next = ground.neighbour(cell, cardAt(b, i));
                climb += Math.max(ground.step(cell, next), 0);
                cell = next;
            }
            return climb;
        }

        /** The bolts that have ells and touch no town, as bits. */
        int toNowhere() {
            int set = 0;
            for (int b = 0; b < size(); b++) {
                if (length(b) > 0 && !touchesTown(b)) {
                    set |= bit(b);
                }
            }
            return set;
        }

        private boolean touchesTown(int b) {
            int cell = firstCell(b);
            boolean touches = ground.isTown(cell);
            for (int i = 0; i < length(b) && !touches; i++) {
                cell = ground.neighbour(cell, cardAt(b, i));
                touches = ground.isTown(cell);
            }
            return touches;
        }

        /** The cells where two bolts or more that have ells begin or end. */
        int seams() {
            int once = 0;
            int twice = 0;
            for (int b = 0; b < size(); b++) {
                int ends = length(b) > 0 ? bit(firstCell(b)) | bit(lastCell(b)) : 0;
                twice |= once & ends;
                once |= ends;
            }
            return twice;
        }

        private static int placeOf(int b) {
            return FIRST_BOLT + b * NUMBERS_OF_ONE;
        }

        private static int opposite(int card) {
            return (card + 2) % CARDS;
        }
    }

    /** The bolts as they were ahead of each of the latest things done. */
    private static final class Past {
        private final Bolts bolts;
        private final Row shelf = new Row(MOST_UNDONE * Bolts.NUMBERS);
        /** Slots go round, so that the oldest one is lost to the newest. */
        private int next = 0;
        private int known = 0;

        Past(Bolts bolts) {
            this.bolts = bolts;
        }

        int known() {
            return known;
        }

        void forget() {
            known = 0;
        }

        void remember() {
            bolts.copyTo(shelf, next);
            next = (next + 1) % MOST_UNDONE;
            known = Math.min(known + 1, MOST_UNDONE);
        }

        boolean takeBack() {
            if (known == 0) {
                return false;
            }
            next = (next + MOST_UNDONE - 1) % MOST_UNDONE;
            known--;
            bolts.copyFrom(shelf, next);
            return true;
        }
    }

    /** Which cells have a road between them: those that bolts make, or all that a slope allows. */
    private static final class Roads {
        private final Land ground;
        /** The cells from which a road goes right, and down: each road is told once. */
        private int right = 0;
        private int down = 0;

        Roads(Land ground) {
            this.ground = ground;
        }

        void lay(Bolts bolts) {
            right = 0;
            down = 0;
            for (int b = 0; b < bolts.size(); b++) {
                int cell = bolts.firstCell(b);
                for (int i = 0; i < bolts.length(b); i++) {
                    int next = ground.neighbour(cell, bolts.cardAt(b, i));
                    layBetween(Math.min(cell, next), Math.max(cell, next));
                    cell = next;
                }
            }
        }

        void layWhereSlope(int slope) {
            right = 0;
            down = 0;
            for (int cell = 0; cell < ground.cells(); cell++) {
                for (int card = RIGHT; card <= DOWN; card++) {
                    int next = ground.neighbour(cell, card);
                    if (next != OFF && Math.abs(ground.step(cell, next)) <= slope) {
                        layBetween(cell, next);
                    }
                }
            }
        }

        /** A land is 2 wide at least, so that only a cell to the right is the next number. */
        private void layBetween(int low, int high) {
            if (high == low + 1) {
                right |= bit(low);
            } else {
                down |= bit(low);
            }
        }

        boolean goes(int cell, int card) {
            switch (card) {
                case UP: return cell >= ground.wide() && (down & bit(cell - ground.wide())) != 0;
                case RIGHT: return (right & bit(cell)) != 0;
                case DOWN: return (down & bit(cell)) != 0;
                case LEFT: return cell > 0 && (right & bit(cell - 1)) != 0;
                default: return false;
            }
        }

        /** These cells, and those that are one ell from one of them. */
        int spread(int cells) {
            int wide = ground.wide();
            int across = (cells & right) << 1 | cells >> 1 & right;
            int along = (cells & down) << wide | cells >> wide & down;
            return cells | across | along;
        }

        /** These cells, and those that are some ells at most from one of them. */
        int reach(int cells, int ells) {
            int reached = cells;
            int before = 0;
            for (int i = 0; i < ells && reached != before; i++) {
                before = reached;
                reached = spread(reached);
            }
            return reached;
        }

        int pieces() {
            int pieces = 0;
            int reached = 0;
            for (int t = 0; t < ground.towns(); t++) {
                int cell = bit(ground.townCell(t));
                if ((reached & cell) == 0) {
                    pieces++;
                    reached |= reach(cell, MOST_CELLS);
                }
            }
            return pieces;
        }

        /** The greatest step of heights on a road; NONE without a road. */
        int steepest() {
            int steepest = NONE;
            for (int cell = 0; cell < ground.cells(); cell++) {
                for (int card = RIGHT; card <= DOWN; card++) {
                    if (goes(cell, card)) {
                        int step = ground.step(cell, ground.neighbour(cell, card));
                        steepest = Math.max(steepest, Math.abs(step));
                    }
                }
            }
            return steepest;
        }

        /** The fewest towns, of as few the least bits, from which all roads are reached within some ells; NONE. */
        int fewestDarners(int ells) {
            int wide = ground.wide();
            int withRoad = right | right << 1 | down | down << wide;
            int fewest = NONE;
            for (int set = 0; set < bit(ground.towns()); set++) {
                boolean fewer = fewest == NONE || Integer.bitCount(set) < Integer.bitCount(fewest);
                if (fewer && (withRoad & ~reach(ground.cellsOfTowns(set), ells)) == 0) {
                    fewest = set;
                }
            }
            return fewest;
        }
    }

    /** How soon one goes over the roads. */
    private static final class Walk {
        /** Above what any way over 20 cells can take. */
        private static final int NEVER = 1000;

        private final Land ground;
        private final Bolts bolts;
        private final Roads roads;
        private final Row times = new Row(MOST_CELLS);

        Walk(Land ground, Bolts bolts, Roads roads) {
            this.ground = ground;
            this.bolts = bolts;
            this.roads = roads;
        }

        int soonest(int from, int to) {
            int seams = bolts.seams();
            times.fill(NEVER);
            times.put(from, 0);
            boolean sooner = true;
            for (int round = 0; round < MOST_CELLS && sooner; round++) {
                sooner = false;
                for (int cell = 0; cell < ground.cells(); cell++) {
                    sooner |= times.get(cell) < NEVER && goOn(cell, seams);
                }
            }
            return times.get(to) < NEVER ? times.get(to) : NONE;
        }

        /** One ell on from a cell to all sides: whether a cell is come to sooner by that. */
        private boolean goOn(int cell, int seams) {
            boolean sooner = false;
            for (int card = 0; card < CARDS; card++) {
                if (roads.goes(cell, card)) {
                    int next = ground.neighbour(cell, card);
                    int seam = (seams & bit(next)) != 0 ? 1 : 0;
                    int time = times.get(cell) + 1 + Math.max(ground.step(cell, next), 0) + seam;
                    if (time < times.get(next)) {
                        times.put(next, time);
                        sooner = true;
                    }
                }
            }
            return sooner;
        }
    }

    /** What could be woven still. */
    private static final class Weaving {
        private final Land ground;
        private final Roads roads;
        private final Roads possible;
        /** For each set of towns and number of ells: the cells that so many ells more can join to all of the set. */
        private final Row joinable = new Row(bit(MOST_TOWNS) * MOST_CELLS);

        Weaving(Land ground, Roads roads) {
            this.ground = ground;
            this.roads = roads;
            this.possible = new Roads(ground);
        }

        int leastSlope() {
            int slope = 0;
            possible.layWhereSlope(slope);
            while (slope < MOST_SLOPE && possible.pieces() > 1) {
                slope++;
                possible.layWhereSlope(slope);
            }
            return slope;
        }

        int fewestElls() {
            possible.layWhereSlope(ground.slope());
            int allTowns = bit(ground.towns()) - 1;
            if (allTowns == 0) {
                return 0;
            }
            if (possible.pieces() > 1) {
                return NONE;
            }
            for (int ells = 0; ells < ground.cells(); ells++) {
                for (int set = 1; set <= allTowns; set++) {
                    joinable.put(placeOf(set, ells), cellsJoined(set, ells));
                }
                if (joinable.get(placeOf(allTowns, ells)) != 0) {
                    return ells;
                }
            }
            return NONE;
        }

        /** Roads that there are cost nothing, so that each cell found brings all that it is joined to. */
        private int cellsJoined(int set, int ells) {
            boolean oneTown = Integer.bitCount(set) == 1;
            int cells = oneTown ? ground.cellsOfTowns(set) : cellsWherePartsMeet(set, ells);
            if (ells > 0) {
                cells |= possible.spread(joinable.get(placeOf(set, ells - 1)));
            }
            return roads.reach(cells, MOST_CELLS);
        }

        private int cellsWherePartsMeet(int set, int ells) {
            int cells = 0;
            for (int part = 1; part < set; part++) {
                if ((part & set) == part) {
                    for (int some = 0; some <= ells; some++) {
                        cells |= joinable.get(placeOf(part, some)) & joinable.get(placeOf(set - part, ells - some));
                    }
                }
            }
            return cells;
        }

        private static int placeOf(int set, int ells) {
            return set * MOST_CELLS + ells;
        }
    }

    /** The odds that all towns are joined behind some nights, of which any may have rain. */
    private static final class Odds {
        private final Bolts frayed;
        private final Roads left;
        /** By how many nights had rain: its odds, times 10 for each night. */
        private final Row chances = new Row(MOST_NIGHTS + 1);

        Odds(Land ground) {
            frayed = new Bolts(ground);
            left = new Roads(ground);
        }

        int lowerNumber(int nights) {
            int lower = 1;
            for (int night = 0; night < nights; night++) {
                lower *= SURE;
            }
            return lower;
        }

        int upperNumber(Bolts bolts, int ofTen, int nights) {
            foretell(ofTen, nights);
            frayed.become(bolts);
            int upper = 0;
            for (int rains = 0; rains <= nights; rains++) {
                left.lay(frayed);
                if (left.pieces() <= 1) {
                    upper += chances.get(rains);
                }
                frayed.fray();
            }
            return upper;
        }

        private void foretell(int ofTen, int nights) {
            chances.fill(0);
            chances.put(0, 1);
            for (int night = 1; night <= nights; night++) {
                for (int rains = night; rains >= 0; rains--) {
                    int dry = chances.get(rains) * (SURE - ofTen);
                    int wet = rains > 0 ? chances.get(rains - 1) * ofTen : 0;
                    chances.put(rains, dry + wet);
                }
            }
        }
    }

    /** Bolts rated as if of a kind; each kind asks the one above it once, and each leaves its trace. */
    private static final class Rates {
        private final Bolts bolts;
        private final Roads roads;
        private long traced = 0;

        Rates(Bolts bolts, Roads roads) {
            this.bolts = bolts;
            this.roads = roads;
        }

        long traced() {
            return traced;
        }

        int asBolt(int b) {
            traced += 1;
            return bolts.length(b);
        }

        int asLane(int b) {
            traced += 10;
            return asBolt(b) + bolts.lastCell(b);
        }

        int asToll(int b) {
            traced += 100;
            return asBolt(b) - bolts.climb(b);
        }

        int asTrack(int b) {
            traced += 1000;
            return 2 * asLane(b);
        }

        int asMoth(int b) {
            traced += 10000;
            return asToll(b) + b;
        }

        int asDream(int b) {
            traced += 100000;
            roads.lay(bolts);
            return asBolt(b) + roads.pieces();
        }
    }
}
