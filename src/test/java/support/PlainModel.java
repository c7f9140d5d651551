import java.util.ArrayList;
import java.util.Collections;
import java.util.HashSet;
import java.util.List;
import java.util.NoSuchElementException;
import java.util.Set;

/**
 * The document once more, word by word and without regard to speed, so that the program can be compared with it. It
 * shares no idea with the program: cards lie in lists, a log entry keeps the whole position before it, and a hint
 * looks again from every position that a move brings about.
 */
final class PlainModel {
    private static final int HOME = 12;

    int columns = 8;
    int cells = 4;
    int build = 0;
    int fill = 0;
    int suits = 4;
    int ranks = 13;
    private Position now = new Position();
    private final List<Entry> log = new ArrayList<>();
    private boolean looked = false;
    private int found = 0;
    private int foundWith = 0;
    private int passed = 0;

    private record Entry(Position before, int moved) {
    }

    /** Places hold cards from the lowest one up; home holds, for each suit, how many of it lie there. */
    private static final class Position {
        final List<List<Integer>> places = new ArrayList<>();
        final int[] home = new int[4];

        Position() {
            for (int place = 0; place < HOME; place++) {
                places.add(new ArrayList<>());
            }
        }

        Position copy() {
            Position copy = new Position();
            for (int place = 0; place < HOME; place++) {
                copy.places.get(place).addAll(places.get(place));
            }
            System.arraycopy(home, 0, copy.home, 0, 4);
            return copy;
        }

        int top(int place) {
            List<Integer> cards = places.get(place);
            return cards.isEmpty() ? -1 : cards.get(cards.size() - 1);
        }

        int atHome() {
            return home[0] + home[1] + home[2] + home[3];
        }

        int laid() {
            int laid = atHome();
            for (List<Integer> place : places) {
                laid += place.size();
            }
            return laid;
        }

        String likeness() {
            List<String> inColumns = new ArrayList<>();
            List<Integer> inCells = new ArrayList<>();
            for (int place = 0; place < 8; place++) {
                inColumns.add(places.get(place).toString());
            }
            for (int place = 8; place < HOME; place++) {
                inCells.addAll(places.get(place));
            }
            Collections.sort(inColumns);
            Collections.sort(inCells);
            return java.util.Arrays.toString(home) + inCells + inColumns;
        }
    }

    private record Looked(int answer, int passed) {
    }

    private boolean isColumn(int place) {
        return place >= 0 && place < columns;
    }

    private boolean isCell(int place) {
        return place >= 8 && place <= 7 + cells;
    }

    private boolean isPlace(int place) {
        return isColumn(place) || isCell(place) || place == HOME;
    }

    private int rank(int card) {
        return card / suits + 1;
    }

    private int suit(int card) {
        return card % suits;
    }

    private boolean isBlack(int suit) {
        return suit == 0 || suit == 3;
    }

    private boolean fitsOn(int card, int other) {
        boolean oneLess = rank(card) == rank(other) - 1;
        switch (build) {
            case 0:
                return oneLess && isBlack(suit(card)) != isBlack(suit(other));
            case 1:
                return oneLess && suit(card) == suit(other);
            default:
                return oneLess;
        }
    }

    private boolean fitsIn(int card) {
        return fill == 0 || fill == 1 && rank(card) == ranks;
    }

    private boolean isAllLaid() {
        return now.laid() == suits * ranks;
    }

    private boolean takes(Position position, int column, int card) {
        int top = position.top(column);
        return top < 0 ? fitsIn(card) : fitsOn(card, top);
    }

    private boolean isSingle(Position position, int from, int to) {
        int card = position.top(from);
        if (card < 0) {
            return false;
        }
        if (to == HOME) {
            return rank(card) == position.home[suit(card)] + 1;
        }
        if (isCell(to)) {
            return isColumn(from) && position.top(to) < 0;
        }
        return from != to && takes(position, to, card);
    }

    private boolean isAllowed(Position position, int from, int to, int m) {
        if (m == 1) {
            return isSingle(position, from, to);
        }
        if (!isColumn(from) || !isColumn(to) || from == to || m > position.places.get(from).size()) {
            return false;
        }
        List<Integer> cards = position.places.get(from);
        int lowest = cards.size() - m;
        for (int k = lowest; k + 1 < cards.size(); k++) {
            if (!fitsOn(cards.get(k + 1), cards.get(k))) {
                return false;
            }
        }
        return m <= bound(position, to) && takes(position, to, cards.get(lowest));
    }

    private int bound(Position position, int to) {
        int c = 0;
        for (int cell = 8; cell <= 7 + cells; cell++) {
            c += position.top(cell) < 0 ? 1 : 0;
        }
        int bound = c + 1;
        for (int column = 0; column < columns && fill == 0; column++) {
            bound *= column != to && position.top(column) < 0 ? 2 : 1;
        }
        return bound;
    }

    private Position moved(Position position, int from, int to, int m) {
        Position next = position.copy();
        List<Integer> cards = next.places.get(from);
        List<Integer> part = new ArrayList<>(cards.subList(cards.size() - m, cards.size()));
        cards.subList(cards.size() - m, cards.size()).clear();
        if (to == HOME) {
            next.home[suit(part.get(0))]++;
        } else {
            next.places.get(to).addAll(part);
        }
        return next;
    }

    private void playMove(int from, int to, int m) {
        log.add(new Entry(now, m));
        if (log.size() > 60) {
            log.remove(0);
        }
        now = moved(now, from, to, m);
        looked = false;
    }

    boolean rules(int newColumns, int newCells, int newBuild, int newFill) {
        if (newColumns < 2 || newColumns > 8 || newCells < 0 || newCells > 4
                || newBuild < 0 || newBuild > 2 || newFill < 0 || newFill > 2) {
            return false;
        }
        columns = newColumns;
        cells = newCells;
        build = newBuild;
        fill = newFill;
        clear();
        return true;
    }

    boolean cards(int newSuits, int newRanks) {
        if (newSuits < 1 || newSuits > 4 || newRanks < 1 || newRanks > 13) {
            return false;
        }
        suits = newSuits;
        ranks = newRanks;
        clear();
        return true;
    }

    void deal(int number) {
        if (number < 0 || number > 32000) {
            throw new IllegalArgumentException();
        }
        clear();
        List<Integer> rest = new ArrayList<>();
        for (int card = 0; card < suits * ranks; card++) {
            rest.add(card);
        }
        long x = number;
        for (int i = 0; !rest.isEmpty(); i++) {
            x = (214013 * x + 2531011) % (1L << 31);
            int k = rest.size();
            int at = (int) (x / 65536 % k);
            now.places.get(i % columns).add(rest.get(at));
            rest.set(at, rest.get(k - 1));
            rest.remove(k - 1);
        }
    }

    void clear() {
        now = new Position();
        log.clear();
        looked = false;
    }

    int lay(int column, int card) {
        if (!isColumn(column) || card < 0 || card >= suits * ranks) {
            throw new IllegalArgumentException();
        }
        boolean lies = now.home[suit(card)] >= rank(card);
        for (List<Integer> place : now.places) {
            lies |= place.contains(card);
        }
        if (lies) {
            throw new IllegalStateException();
        }
        now.places.get(column).add(card);
        looked = false;
        return now.laid();
    }

    int move(int from, int to, int m) {
        if (!isPlace(from) || !isPlace(to) || from == HOME || m < 1) {
            throw new IllegalArgumentException();
        }
        if (!isAllLaid() || !isAllowed(now, from, to, m)) {
            throw new IllegalStateException();
        }
        playMove(from, to, m);
        return now.atHome();
    }

    int play(char from, char to) {
        int source = "12345678abcdh".indexOf(from);
        int target = "12345678abcdh".indexOf(to);
        if (!isPlace(source) || !isPlace(target) || source == HOME) {
            throw new IllegalArgumentException();
        }
        int m = isColumn(source) && isColumn(target) ? most(source, target) : 1;
        if (!isAllLaid() || m == 0 || !isAllowed(now, source, target, m)) {
            throw new IllegalStateException();
        }
        playMove(source, target, m);
        return m;
    }

    private boolean isSafe(int place) {
        int card = now.top(place);
        if (card < 0 || !isSingle(now, place, HOME)) {
            return false;
        }
        boolean allAtHome = true;
        for (int suit = 0; suit < suits; suit++) {
            if (build == 2 || isBlack(suit) != isBlack(suit(card))) {
                allAtHome &= now.home[suit] >= rank(card) - 1;
            }
        }
        return build == 1 || rank(card) == 1 || rank(card) == 2 || allAtHome;
    }

    int sendHome() {
        if (!isAllLaid()) {
            throw new IllegalStateException();
        }
        int sent = 0;
        boolean more = true;
        while (more) {
            more = false;
            for (int place : new int[] {8, 9, 10, 11, 0, 1, 2, 3, 4, 5, 6, 7}) {
                if (!more && isSafe(place)) {
                    playMove(place, HOME, 1);
                    sent++;
                    more = true;
                }
            }
        }
        return sent;
    }

    int undo() {
        if (log.isEmpty()) {
            throw new NoSuchElementException();
        }
        Entry latest = log.remove(log.size() - 1);
        now = latest.before();
        looked = false;
        return latest.moved();
    }

    int log() {
        return log.size();
    }

    int card(int place, int k) {
        if (!isPlace(place) || k < 0) {
            return -1;
        }
        if (place == HOME) {
            return k < suits && now.home[k] > 0 ? suits * (now.home[k] - 1) + k : -1;
        }
        List<Integer> cards = now.places.get(place);
        return k < cards.size() ? cards.get(k) : -1;
    }

    int size(int place) {
        if (!isPlace(place)) {
            return -1;
        }
        return place == HOME ? now.atHome() : now.places.get(place).size();
    }

    int most(int from, int to) {
        if (!isColumn(from) || !isColumn(to) || from == to || !isAllLaid()) {
            return 0;
        }
        for (int m = 52; m > 0; m--) {
            if (isAllowed(now, from, to, m)) {
                return m;
            }
        }
        return 0;
    }

    private Looked lookFrom(Position start, int n) {
        Set<String> known = new HashSet<>();
        List<Position> level = new ArrayList<>();
        level.add(start);
        known.add(start.likeness());
        for (int number = 0;; number++) {
            int before = known.size() - level.size();
            for (Position position : level) {
                if (position.atHome() == suits * ranks) {
                    return new Looked(number, before);
                }
            }
            if (level.isEmpty()) {
                return new Looked(-3, before);
            }
            if (known.size() > n) {
                return new Looked(-2, before);
            }
            List<Position> next = new ArrayList<>();
            for (Position position : level) {
                for (int move : singles(position)) {
                    Position reached = moved(position, move / 16, move % 16, 1);
                    if (known.add(reached.likeness())) {
                        next.add(reached);
                    }
                }
            }
            level = next;
        }
    }

    private List<Integer> singles(Position position) {
        List<Integer> singles = new ArrayList<>();
        for (int from = 0; from < HOME; from++) {
            for (int to = 0; to <= HOME; to++) {
                if (isPlace(from) && isPlace(to) && isSingle(position, from, to)) {
                    singles.add(16 * from + to);
                }
            }
        }
        return singles;
    }

    int look(int n) {
        if (n < 1 || n > 200) {
            throw new IllegalArgumentException();
        }
        if (!isAllLaid()) {
            throw new IllegalStateException();
        }
        Looked result = lookFrom(now, n);
        looked = true;
        found = result.answer();
        foundWith = n;
        passed = result.passed();
        return found;
    }

    int hint() {
        if (!looked || found <= 0) {
            return -1;
        }
        for (int move : singles(now)) {
            if (lookFrom(moved(now, move / 16, move % 16, 1), foundWith).answer() == found - 1) {
                return move;
            }
        }
        return -1;
    }

    int positions() {
        return passed;
    }

    /** The single moves there are, each 16 * from + to. */
    List<Integer> singles() {
        return isAllLaid() ? singles(now) : new ArrayList<>();
    }
}
