import java.util.Arrays;
import java.util.NoSuchElementException;

/** A table for patience games in which all cards lie open; README.md says how to use it. */
public final class PatienceTable {
    public static final int NONE = -1;
    public static final int UNKNOWN = -2;
    public static final int LOST = -3;

    private static final int LEAST_COLUMNS = 2;
    private static final int MOST_COLUMNS = 8;
    private static final int MOST_CELLS = 4;
    private static final int MOST_SUITS = 4;
    private static final int MOST_RANKS = 13;
    private static final int MOST_CARDS = 52;
    private static final int LAST_DEAL = 32000;
    private static final int LOWEST_31_BITS = 0x7FFFFFFF;
    private static final int MOST_FUEL = 200;
    private static final int MOST_LOGGED = 60;

    private static final int FIRST_CELL = 8;
    private static final int HOME = 12;
    private static final int PLACE_BASE = 16;

    private static final int BUILD_BY_COLOUR = 0;
    private static final int BUILD_BY_SUIT = 1;
    private static final int LAST_BUILD = 2;
    private static final int FILL_WITH_ANY = 0;
    private static final int FILL_WITH_GREATEST = 1;
    private static final int LAST_FILL = 2;

    // What a card lies on if that is no card: NONE is the bare ground of a column.
    private static final int IN_CELL = -2;
    private static final int AT_HOME = -3;
    private static final int NOT_LAID = -4;

    private final Game game = new Game();
    private final Layout table = new Layout(game);
    private final Log played = new Log();
    private final Search search = new Search(game);
    private final int[] rest = new int[MOST_CARDS];
    private int hinted = NONE;

    public PatienceTable() {
    }

    public boolean rules(int columns, int cells, int build, int fill) {
        boolean inBounds = isWithin(columns, LEAST_COLUMNS, MOST_COLUMNS) && isWithin(cells, 0, MOST_CELLS)
                && isWithin(build, 0, LAST_BUILD) && isWithin(fill, 0, LAST_FILL);
        if (!inBounds) {
            return false;
        }
        game.columns = columns;
        game.cells = cells;
        game.build = build;
        game.fill = fill;
        clear();
        return true;
    }

    public boolean cards(int suits, int ranks) {
        if (!isWithin(suits, 1, MOST_SUITS) || !isWithin(ranks, 1, MOST_RANKS)) {
            return false;
        }
        game.suits = suits;
        game.ranks = ranks;
        clear();
        return true;
    }

    public void deal(int number) throws IllegalArgumentException {
        if (!isWithin(number, 0, LAST_DEAL)) {
            throw new IllegalArgumentException("no such deal");
        }
        clear();
        int cardCount = game.cardCount();
        for (int card = 0; card < cardCount; card++) {
            rest[card] = card;
        }
        int x = number;
        for (int i = 0; i < cardCount; i++) {
            int left = cardCount - i;
            // The product may wrap: the bits that are kept stay right.
            x = (214013 * x + 2531011) & LOWEST_31_BITS;
            int drawn = x / 65536 % left;
            table.layOn(i % game.columns, rest[drawn]);
            rest[drawn] = rest[left - 1];
        }
    }

    public void clear() {
        table.takeAllUp();
        played.forgetAll();
        hinted = NONE;
    }

    public int lay(int column, int card) throws IllegalArgumentException, IllegalStateException {
        if (!game.isColumn(column) || !game.isCard(card)) {
            throw new IllegalArgumentException("no such column or card");
        }
        if (table.isLaid(card)) {
            throw new IllegalStateException("the card lies somewhere");
        }
        table.layOn(column, card);
        hinted = NONE;
        return table.laid;
    }

    public int move(int from, int to, int m) throws IllegalArgumentException, IllegalStateException {
        if (!game.isPlace(from) || !game.isPlace(to) || from == HOME || m < 1) {
            throw new IllegalArgumentException("no such move");
        }
        if (!table.isAllLaid() || !table.allows(from, to, m)) {
            throw new IllegalStateException("not allowed now");
        }
        bring(from, to, m);
        return table.atHome;
    }

    public int play(char from, char to) throws IllegalArgumentException, IllegalStateException {
        int source = placeTold(from);
        int target = placeTold(to);
        if (!game.isPlace(source) || !game.isPlace(target) || source == HOME) {
            throw new IllegalArgumentException("no such move");
        }
        int m = game.isColumn(source) && game.isColumn(target) ? table.mostBetween(source, target) : 1;
        if (!table.isAllLaid() || !table.allows(source, target, m)) {
            throw new IllegalStateException("not allowed now");
        }
        bring(source, target, m);
        return m;
    }

    public int sendHome() throws IllegalStateException {
        if (!table.isAllLaid()) {
            throw new IllegalStateException("not all cards are laid");
        }
        for (int sent = 0; sent < MOST_CARDS; sent++) {
            int from = table.placeOfSafe();
            if (from == NONE) {
                return sent;
            }
            bring(from, HOME, 1);
        }
        return MOST_CARDS;
    }

    public int undo() throws NoSuchElementException {
        if (played.count == 0) {
            throw new NoSuchElementException("the log is empty");
        }
        int latest = played.takeLatest();
        table.carry(played.lowests[latest], played.targets[latest], played.sources[latest]);
        hinted = NONE;
        return played.amounts[latest];
    }

    public int log() {
        return played.count;
    }

    public int card(int place, int k) {
        if (!game.isPlace(place) || k < 0) {
            return NONE;
        }
        return place == HOME ? table.topAtHome(k) : table.cardFromTop(place, table.heightOf(place) - 1 - k);
    }

    public int size(int place) {
        return game.isPlace(place) ? table.heightOf(place) : NONE;
    }

    public int most(int from, int to) {
        if (!game.isColumn(from) || !game.isColumn(to) || !table.isAllLaid()) {
            return 0;
        }
        return table.mostBetween(from, to);
    }

    public int look(int n) throws IllegalArgumentException, IllegalStateException {
        if (!isWithin(n, 1, MOST_FUEL)) {
            throw new IllegalArgumentException("no such fuel");
        }
        if (!table.isAllLaid()) {
            throw new IllegalStateException("not all cards are laid");
        }
        int answer = search.seek(table, n);
        hinted = search.firstStep;
        return answer;
    }

    public int hint() {
        return hinted;
    }

    public int positions() {
        return search.passed;
    }

    private static boolean isWithin(int value, int least, int most) {
        return value >= least && value <= most;
    }

    private static int placeTold(char told) {
        if (told >= '1' && told <= '8') {
            return told - '1';
        }
        if (told >= 'a' && told <= 'd') {
            return FIRST_CELL + told - 'a';
        }
        return told == 'h' ? HOME : NONE;
    }

    private void bring(int from, int to, int m) {
        int lowest = table.cardFromTop(from, m - 1);
        table.carry(lowest, from, to);
        played.note(lowest, from, to, m);
        hinted = NONE;
    }

    /** The rules and the cards that are played with. */
    private static final class Game {
        private int columns = MOST_COLUMNS;
        private int cells = MOST_CELLS;
        private int build = BUILD_BY_COLOUR;
        private int fill = FILL_WITH_ANY;
        private int suits = MOST_SUITS;
        private int ranks = MOST_RANKS;

        boolean isColumn(int place) {
            return place >= 0 && place < columns;
        }

        boolean isCell(int place) {
            return place >= FIRST_CELL && place < FIRST_CELL + cells;
        }

        boolean isPlace(int place) {
            return isColumn(place) || isCell(place) || place == HOME;
        }

        int cardCount() {
            return suits * ranks;
        }

        boolean isCard(int card) {
            return card >= 0 && card < cardCount();
        }

        int rankOf(int card) {
            return card / suits + 1;
        }

        int suitOf(int card) {
            return card % suits;
        }

        boolean isRed(int suit) {
            return suit == 1 || suit == 2;
        }

        boolean fitsOn(int card, int other) {
            if (rankOf(card) + 1 != rankOf(other)) {
                return false;
            }
            if (build == BUILD_BY_COLOUR) {
                return isRed(suitOf(card)) != isRed(suitOf(other));
            }
            return build != BUILD_BY_SUIT || suitOf(card) == suitOf(other);
        }

        boolean fitsInEmpty(int card) {
            return fill == FILL_WITH_ANY || fill == FILL_WITH_GREATEST && rankOf(card) == ranks;
        }
    }

    /**
     * Where the cards lie. Each card knows only what it lies on, so that two layouts with all cards laid are alike
     * just if these rows are the same, whatever the order of columns and cells.
     */
    private static final class Layout {
        private final Game game;
        private final int[] beneath = new int[MOST_CARDS];
        private final int[] tops = new int[HOME];
        private final int[] homeRanks = new int[MOST_SUITS];
        private int laid;
        private int atHome;

        Layout(Game game) {
            this.game = game;
            takeAllUp();
        }

        void takeAllUp() {
            Arrays.fill(beneath, NOT_LAID);
            Arrays.fill(tops, NONE);
            Arrays.fill(homeRanks, 0);
            laid = 0;
            atHome = 0;
        }

        void becomeLike(Layout other) {
            System.arraycopy(other.beneath, 0, beneath, 0, MOST_CARDS);
            System.arraycopy(other.tops, 0, tops, 0, HOME);
            System.arraycopy(other.homeRanks, 0, homeRanks, 0, MOST_SUITS);
            laid = other.laid;
            atHome = other.atHome;
        }

        boolean isLaid(int card) {
            return beneath[card] != NOT_LAID;
        }

        boolean isAllLaid() {
            return laid == game.cardCount();
        }

        boolean isAllHome() {
            return atHome == game.cardCount();
        }

        void layOn(int column, int card) {
            beneath[card] = tops[column];
            tops[column] = card;
            laid++;
        }

        int heightOf(int place) {
            if (place == HOME) {
                return atHome;
            }
            int height = 0;
            for (int card = tops[place]; card >= 0 && height < MOST_CARDS; card = beneath[card]) {
                height++;
            }
            return height;
        }

        int cardFromTop(int place, int steps) {
            if (steps < 0) {
                return NONE;
            }
            int card = tops[place];
            for (int step = 0; step < steps && card >= 0; step++) {
                card = beneath[card];
            }
            return card >= 0 ? card : NONE;
        }

        int topAtHome(int suit) {
            if (suit >= game.suits || homeRanks[suit] == 0) {
                return NONE;
            }
            return game.suits * (homeRanks[suit] - 1) + suit;
        }

        boolean allows(int from, int to, int m) {
            return m == 1 ? allowsOne(from, to) : m > 1 && allowsRow(from, to, m);
        }

        boolean allowsOne(int from, int to) {
            int card = tops[from];
            if (card == NONE || from == to) {
                return false;
            }
            if (game.isColumn(to)) {
                return bears(to, card);
            }
            if (game.isCell(to)) {
                return game.isColumn(from) && tops[to] == NONE;
            }
            return to == HOME && mayGoHome(card);
        }

        private boolean allowsRow(int from, int to, int m) {
            return game.isColumn(from) && game.isColumn(to) && from != to
                    && m <= rowOf(from) && m <= mostAtOnce(to) && bears(to, cardFromTop(from, m - 1));
        }

        private boolean bears(int column, int card) {
            return tops[column] == NONE ? game.fitsInEmpty(card) : game.fitsOn(card, tops[column]);
        }

        private int rowOf(int column) {
            int card = tops[column];
            if (card == NONE) {
                return 0;
            }
            int row = 1;
            while (row < MOST_RANKS && beneath[card] >= 0 && game.fitsOn(card, beneath[card])) {
                card = beneath[card];
                row++;
            }
            return row;
        }

        private int mostAtOnce(int to) {
            int emptyCells = emptyAmong(FIRST_CELL, game.cells);
            if (game.fill != FILL_WITH_ANY) {
                return emptyCells + 1;
            }
            int emptyColumns = emptyAmong(0, game.columns);
            int helping = tops[to] == NONE ? emptyColumns - 1 : emptyColumns;
            return (emptyCells + 1) << helping;
        }

        private int emptyAmong(int first, int amount) {
            int empty = 0;
            for (int place = first; place < first + amount; place++) {
                if (tops[place] == NONE) {
                    empty++;
                }
            }
            return empty;
        }

        int mostBetween(int from, int to) {
            for (int m = rowOf(from); m > 0; m--) {
                if (allows(from, to, m)) {
                    return m;
                }
            }
            return 0;
        }

        private boolean mayGoHome(int card) {
            return game.rankOf(card) == homeRanks[game.suitOf(card)] + 1;
        }

        int placeOfSafe() {
            for (int place = FIRST_CELL; place < HOME; place++) {
                if (isTopSafe(place)) {
                    return place;
                }
            }
            for (int place = 0; place < FIRST_CELL; place++) {
                if (isTopSafe(place)) {
                    return place;
                }
            }
            return NONE;
        }

        private boolean isTopSafe(int place) {
            int card = tops[place];
            return card != NONE && mayGoHome(card) && isSafe(card);
        }

        private boolean isSafe(int card) {
            int rank = game.rankOf(card);
            if (game.build == BUILD_BY_SUIT || rank <= 2) {
                return true;
            }
            boolean red = game.isRed(game.suitOf(card));
            for (int suit = 0; suit < game.suits; suit++) {
                // This card may be wanted as long as one that could lie on it is not at home.
                boolean mayLieOnIt = game.build != BUILD_BY_COLOUR || game.isRed(suit) != red;
                if (mayLieOnIt && homeRanks[suit] < rank - 1) {
                    return false;
                }
            }
            return true;
        }

        int groundAt(int place) {
            if (place == HOME) {
                return AT_HOME;
            }
            return place >= FIRST_CELL ? IN_CELL : tops[place];
        }

        /** Asks no rule, so that it takes moves back as well. */
        void carry(int lowest, int from, int to) {
            int upper = from == HOME ? lowest : tops[from];
            int bared = beneath[lowest];
            beneath[lowest] = groundAt(to);
            if (from == HOME) {
                homeRanks[game.suitOf(lowest)]--;
                atHome--;
            } else {
                tops[from] = from >= FIRST_CELL ? NONE : bared;
            }
            if (to == HOME) {
                homeRanks[game.suitOf(lowest)]++;
                atHome++;
            } else {
                tops[to] = upper;
            }
        }
    }

    /** The latest moves, in a ring: a new one takes the place of the oldest when all are used. */
    private static final class Log {
        private final int[] lowests = new int[MOST_LOGGED];
        private final int[] sources = new int[MOST_LOGGED];
        private final int[] targets = new int[MOST_LOGGED];
        private final int[] amounts = new int[MOST_LOGGED];
        private int next = 0;
        private int count = 0;

        void forgetAll() {
            next = 0;
            count = 0;
        }

        void note(int lowest, int from, int to, int m) {
            lowests[next] = lowest;
            sources[next] = from;
            targets[next] = to;
            amounts[next] = m;
            next = next + 1 < MOST_LOGGED ? next + 1 : 0;
            count = Math.min(count + 1, MOST_LOGGED);
        }

        int takeLatest() {
            next = next > 0 ? next - 1 : MOST_LOGGED - 1;
            count--;
            return next;
        }
    }

    /**
     * Goes through the levels of positions. Moves are tried in rising order and levels kept in the order they were
     * found, so the first way found to a position is also one that begins with the least move.
     */
    private static final class Search {
        private static final int SLOTS = 512;

        private final Game game;
        private final Layout[] found = new Layout[MOST_FUEL];
        private final int[] hashes = new int[MOST_FUEL];
        private final int[] firstSteps = new int[MOST_FUEL];
        private final int[] slots = new int[SLOTS];
        private int fuel = 0;
        private int count = 0;
        private boolean hasTooMany = false;
        private int firstStep = NONE;
        private int passed = 0;

        Search(Game game) {
            this.game = game;
            for (int node = 0; node < MOST_FUEL; node++) {
                found[node] = new Layout(game);
            }
        }

        int seek(Layout start, int n) {
            begin(start, n);
            if (start.isAllHome()) {
                return 0;
            }
            int first = 0;
            // Each level passed has a position of its own, so there are no more of them than fuel.
            for (int level = 1; level <= MOST_FUEL; level++) {
                passed = count;
                for (int node = first; node < passed && firstStep == NONE; node++) {
                    expand(node);
                }
                if (firstStep != NONE) {
                    return level;
                }
                if (hasTooMany) {
                    return UNKNOWN;
                }
                if (count == passed) {
                    return LOST;
                }
                first = passed;
            }
            return UNKNOWN;
        }

        private void begin(Layout start, int n) {
            fuel = n;
            hasTooMany = false;
            firstStep = NONE;
            passed = 0;
            Arrays.fill(slots, 0);
            found[0].becomeLike(start);
            hashes[0] = hashOf(start);
            slots[hashes[0] & (SLOTS - 1)] = 1;
            count = 1;
        }

        private void expand(int node) {
            Layout layout = found[node];
            for (int from = 0; from < HOME; from++) {
                for (int to = 0; to <= HOME; to++) {
                    if (layout.allowsOne(from, to)) {
                        reach(node, from, to);
                    }
                }
            }
        }

        private void reach(int node, int from, int to) {
            Layout layout = found[node];
            int step = node == 0 ? PLACE_BASE * from + to : firstSteps[node];
            if (to == HOME && layout.atHome + 1 == game.cardCount()) {
                firstStep = step;
                return;
            }
            if (hasTooMany) {
                return;
            }
            int card = layout.tops[from];
            int ground = layout.groundAt(to);
            int hash = hashes[node] - share(card, layout.beneath[card]) + share(card, ground);
            int slot = slotFor(hash, layout, card, ground);
            if (slots[slot] != 0) {
                return;
            }
            if (count >= fuel) {
                hasTooMany = true;
                return;
            }
            found[count].becomeLike(layout);
            found[count].carry(card, from, to);
            hashes[count] = hash;
            firstSteps[count] = step;
            count++;
            slots[slot] = count;
        }

        /** The slot of the position like the layout but for one card's ground, or the free one where it belongs. */
        private int slotFor(int hash, Layout layout, int card, int ground) {
            int slot = hash & (SLOTS - 1);
            for (int tried = 0; tried < SLOTS && slots[slot] != 0; tried++) {
                int node = slots[slot] - 1;
                if (hashes[node] == hash && isAlike(found[node], layout, card, ground)) {
                    return slot;
                }
                slot = (slot + 1) & (SLOTS - 1);
            }
            return slot;
        }

        private boolean isAlike(Layout known, Layout layout, int moved, int ground) {
            int cardCount = game.cardCount();
            for (int card = 0; card < cardCount; card++) {
                int beneath = card == moved ? ground : layout.beneath[card];
                if (known.beneath[card] != beneath) {
                    return false;
                }
            }
            return true;
        }

        private int hashOf(Layout layout) {
            int hash = 0;
            int cardCount = game.cardCount();
            for (int card = 0; card < cardCount; card++) {
                hash += share(card, layout.beneath[card]);
            }
            return hash;
        }

        /** Shares are summed, so that a move changes the sum by one card's share only. */
        private static int share(int card, int ground) {
            int mixed = (64 * card + ground - NOT_LAID) * 0x9E3779B1;
            mixed = (mixed ^ mixed >>> 15) * 0x85EBCA77;
            return mixed ^ mixed >>> 13;
        }
    }
}
