import java.util.ArrayList;
import java.util.List;
import java.util.function.Supplier;

/** Both sides of each boundary that the document names for rules, cards, places and what lies there. */
public final class BoundsOfTableTest {
    private static final int NONE = PatienceTable.NONE;
    private static final int HOME = 12;

    private BoundsOfTableTest() {
    }

    public static void main(String[] args) {
        Check check = new Check("bounds of the table");
        lastCall(check.about("'An object is used for at most 512 calls'"));
        suitsAndRanks(check.about("'suits 1 .. 4, ranks 1 .. 13'"));
        cardNumbers(check.about("'the number suits * (r - 1) + s'"));
        columnsAndCells(check.about("'columns 2 .. 8', 'cells 0 .. 4', 'HOME, 12'"));
        newObject(check.about("promise 1"));
        rulesWithin(check.about("promise 2, 'build (0 .. 2) or fill (0 .. 2) is out of its bounds'"));
        rulesEmpty(check.about("promise 2, 'no card is laid then, the log is empty'"));
        cardsEmpty(check.about("promise 3, 'likewise'"));
        dealNumbers(check.about("promise 4, 'when number is not 0 .. 32000'"));
        dealEmpties(check.about("promise 4, 'No card is laid then, the log is empty'"));
        dealLays(check.about("promise 4, 'all are laid like this'"));
        clear(check.about("promise 5, 'No card is laid then, the log is empty'"));
        layCounts(check.about("promise 6, 'how many cards are laid'"));
        layArguments(check.about("promise 6, 'no such column or card'"));
        layTwice(check.about("promise 6, 'when it lies somewhere'"));
        cardOfColumn(check.about("promise 12, 'Card k of a column, from 0, the lowest one'"));
        cardOfCell(check.about("promise 12, 'the card in a cell (k = 0)'"));
        cardAtHome(check.about("promise 12, 'the top of suit k at home'"));
        sizes(check.about("promise 13, 'How many cards a place has'"));
        noSuchPlace(check.about("promises 12 and 13, 'NONE when there is no such place'"));
        check.end();
    }

    private static boolean isWithin(int value, int least, int most) {
        return least <= value && value <= most;
    }

    private static void lastCall(Check check) {
        PatienceTable moved = Tables.told(Tables.of(2, 1, 0, 0, 1, 1), "0");
        for (int call = 4; call < 512; call++) {
            check.equal("call " + call + ", a move", moved.move(call % 2, 1 - call % 2, 1), 0);
        }
        check.equal("call 512, a move", moved.move(0, HOME, 1), 1);
        PatienceTable looked = new PatienceTable();
        looked.deal(1);
        for (int call = 2; call < 512; call++) {
            looked.look(200);
        }
        check.equal("call 512, a look", looked.look(50), PatienceTable.UNKNOWN);
        PatienceTable refused = new PatienceTable();
        for (int call = 1; call < 512; call++) {
            check.equal("call " + call + ", refused", Answer.of(refused::undo), Answer.ELEMENT);
        }
        check.equal("call 512, a card laid", refused.lay(7, 51), 1);
    }

    private static void suitsAndRanks(Check check) {
        for (int suits = -1; suits <= 6; suits++) {
            for (int ranks = -1; ranks <= 15; ranks++) {
                boolean due = isWithin(suits, 1, 4) && isWithin(ranks, 1, 13);
                check.that("cards(" + suits + ", " + ranks + ")", new PatienceTable().cards(suits, ranks) == due);
            }
        }
        int[] far = {Integer.MIN_VALUE, -256, 257, 65537, Integer.MAX_VALUE};
        for (int value : far) {
            check.that("cards(" + value + ", 1)", !new PatienceTable().cards(value, 1));
            check.that("cards(1, " + value + ")", !new PatienceTable().cards(1, value));
        }
    }

    private static void cardNumbers(Check check) {
        for (int suits = 1; suits <= 4; suits++) {
            for (int ranks = 1; ranks <= 13; ranks++) {
                int count = suits * ranks;
                String what = suits + " suits, " + ranks + " ranks, ";
                PatienceTable table = Tables.of(2, 0, 1, 0, suits, ranks);
                check.refusesArgument(what + "one number too great", () -> table.lay(0, count));
                check.refusesArgument(what + "one number too small", () -> table.lay(0, -1));
                for (int card = count - 1; card >= 0; card--) {
                    check.equal(what + "lay(0, " + card + ")", table.lay(0, card), count - card);
                }
                for (int card = 0; card < count; card++) {
                    check.equal(what + "home with " + card, table.move(0, HOME, 1), card + 1);
                    check.equal(what + "its suit's top", table.card(HOME, card % suits), card);
                }
            }
        }
    }

    private static void columnsAndCells(Check check) {
        for (int columns = 2; columns <= 8; columns++) {
            for (int cells = 0; cells <= 4; cells++) {
                PatienceTable table = Tables.of(columns, cells, 0, 0, 1, 1);
                for (int place = -3; place <= 17; place++) {
                    boolean isThere = isWithin(place, 0, columns - 1) || isWithin(place, 8, 7 + cells) || place == HOME;
                    check.equal(columns + " columns, " + cells + " cells, size(" + place + ")",
                            table.size(place), isThere ? 0 : NONE);
                }
            }
        }
    }

    private static void newObject(Check check) {
        Twins.same(check, "a new object and rules(8, 4, 0, 0), cards(4, 13)",
                () -> Tables.of(8, 4, 0, 0, 4, 13), PatienceTable::new);
        Twins.same(check, "a new object and a second one beside it in use", PatienceTable::new, () -> {
            PatienceTable first = new PatienceTable();
            new PatienceTable().rules(2, 0, 2, 2);
            new PatienceTable().deal(1);
            return first;
        });
    }

    private static void rulesWithin(Check check) {
        for (int columns = 0; columns <= 10; columns++) {
            check.that("rules(" + columns + ", 4, 0, 0)",
                    new PatienceTable().rules(columns, 4, 0, 0) == isWithin(columns, 2, 8));
        }
        for (int value = -2; value <= 6; value++) {
            check.that("rules(8, " + value + ", 0, 0)",
                    new PatienceTable().rules(8, value, 0, 0) == isWithin(value, 0, 4));
            check.that("rules(8, 4, " + value + ", 0)",
                    new PatienceTable().rules(8, 4, value, 0) == isWithin(value, 0, 2));
            check.that("rules(8, 4, 0, " + value + ")",
                    new PatienceTable().rules(8, 4, 0, value) == isWithin(value, 0, 2));
        }
        for (int far : new int[] {Integer.MIN_VALUE, -65534, 258, 65538, Integer.MAX_VALUE}) {
            check.that("rules(" + far + ", 4, 0, 0)", !new PatienceTable().rules(far, 4, 0, 0));
            check.that("rules(8, " + far + ", 0, 0)", !new PatienceTable().rules(8, far, 0, 0));
            check.that("rules(8, 4, " + far + ", 0)", !new PatienceTable().rules(8, 4, far, 0));
            check.that("rules(8, 4, 0, " + far + ")", !new PatienceTable().rules(8, 4, 0, far));
        }
    }

    /** A table in play: cards in columns, in a cell and at home, and four moves in the log. */
    private static PatienceTable inPlay() {
        PatienceTable table = Tables.told(Tables.of(3, 2, 1, 1, 2, 3), "5 3 0 / 4 2 1");
        table.move(0, HOME, 1);
        table.move(0, 9, 1);
        table.move(1, 8, 1);
        table.move(8, HOME, 1);
        return table;
    }

    private static void rulesEmpty(Check check) {
        Twins.same(check, "rules in play and rules at first", () -> Tables.of(4, 1, 2, 0, 2, 3), () -> {
            PatienceTable table = inPlay();
            table.rules(4, 1, 2, 0);
            return table;
        });
        Twins.same(check, "the same rules in play and clear", () -> Tables.of(3, 2, 1, 1, 2, 3), () -> {
            PatienceTable table = inPlay();
            table.rules(3, 2, 1, 1);
            return table;
        });
        Twins.same(check, "rules before and after cards", () -> Tables.of(3, 2, 1, 1, 2, 3), () -> {
            PatienceTable table = new PatienceTable();
            table.cards(2, 3);
            table.rules(3, 2, 1, 1);
            return table;
        });
    }

    private static void cardsEmpty(Check check) {
        Twins.same(check, "cards in play and cards at first", () -> Tables.of(3, 2, 1, 1, 4, 5), () -> {
            PatienceTable table = inPlay();
            table.cards(4, 5);
            return table;
        });
        Twins.same(check, "the same cards in play and clear", () -> Tables.of(3, 2, 1, 1, 2, 3), () -> {
            PatienceTable table = inPlay();
            table.cards(2, 3);
            return table;
        });
        Twins.same(check, "fewer cards than lay there", () -> Tables.of(3, 2, 1, 1, 1, 1), () -> {
            PatienceTable table = inPlay();
            table.cards(1, 1);
            return table;
        });
    }

    private static void dealNumbers(Check check) {
        for (int number : new int[] {Integer.MIN_VALUE, -32000, -2, -1, 32001, 32002, 65536, Integer.MAX_VALUE}) {
            PatienceTable table = new PatienceTable();
            check.refusesArgument("deal(" + number + ")", () -> table.deal(number));
            check.equal("deal(" + number + ") lays nothing", table.size(0), 0);
        }
        for (int number : new int[] {0, 1, 2, 31999, 32000}) {
            PatienceTable table = new PatienceTable();
            table.deal(number);
            check.equal("deal(" + number + ") lays seven", table.size(3), 7);
            check.equal("deal(" + number + ") lays six", table.size(4), 6);
        }
    }

    private static void dealEmpties(Check check) {
        Supplier<PatienceTable> due = () -> {
            PatienceTable table = Tables.of(3, 2, 1, 1, 2, 3);
            table.deal(32000);
            return table;
        };
        Twins.same(check, "a deal in play and a deal at first", due, () -> {
            PatienceTable table = inPlay();
            table.deal(32000);
            return table;
        });
        Twins.same(check, "a deal on a deal and a deal at first", due, () -> {
            PatienceTable table = due.get();
            table.deal(32000);
            return table;
        });
        Twins.same(check, "a deal with one card laid and a deal at first", due, () -> {
            PatienceTable table = Tables.of(3, 2, 1, 1, 2, 3);
            table.lay(2, 5);
            table.deal(32000);
            return table;
        });
    }

    /** The sentence once more, with numbers that cannot wrap. */
    private static List<Integer> dealt(int number, int cards) {
        List<Integer> rest = new ArrayList<>();
        for (int card = 0; card < cards; card++) {
            rest.add(card);
        }
        List<Integer> drawn = new ArrayList<>();
        long x = number;
        for (int k = cards; k > 0; k--) {
            x = (214013L * x + 2531011L) % 2147483648L;
            int at = (int) (x / 65536L % k);
            drawn.add(rest.get(at));
            rest.set(at, rest.get(k - 1));
        }
        return drawn;
    }

    private static void dealLays(Check check) {
        for (int number = 0; number <= 32000; number += 128) {
            compareDeal(check, number, 8, 4, 13);
        }
        compareDeal(check, 31999, 8, 4, 13);
        for (int columns = 2; columns <= 8; columns++) {
            for (int suits = 1; suits <= 4; suits++) {
                for (int ranks = 1; ranks <= 13; ranks++) {
                    compareDeal(check, 1000 * columns + 100 * suits + ranks, columns, suits, ranks);
                }
            }
        }
    }

    private static void compareDeal(Check check, int number, int columns, int suits, int ranks) {
        PatienceTable table = Tables.of(columns, 4, 0, 0, suits, ranks);
        table.deal(number);
        String what = "deal " + number + " of " + suits * ranks + " cards into " + columns + " columns, ";
        int i = 0;
        for (int card : dealt(number, suits * ranks)) {
            check.equal(what + "card " + i, table.card(i % columns, i / columns), card);
            i++;
        }
        int inColumns = 0;
        for (int column = 0; column < columns; column++) {
            inColumns += table.size(column);
        }
        check.equal(what + "how many", inColumns, suits * ranks);
    }

    private static void clear(Check check) {
        Supplier<PatienceTable> due = () -> Tables.of(3, 2, 1, 1, 2, 3);
        Twins.same(check, "clear in play", due, () -> {
            PatienceTable table = inPlay();
            table.clear();
            return table;
        });
        Twins.same(check, "clear with no card laid", due, () -> {
            PatienceTable table = due.get();
            table.clear();
            return table;
        });
        Twins.same(check, "clear with one card laid", due, () -> {
            PatienceTable table = due.get();
            table.lay(2, 5);
            table.clear();
            return table;
        });
        Twins.same(check, "clear with all cards at home", due, () -> {
            PatienceTable table = inPlay();
            table.sendHome();
            check.equal("cards at home before", table.size(HOME), 6);
            table.clear();
            return table;
        });
    }

    private static void layCounts(Check check) {
        PatienceTable table = new PatienceTable();
        for (int card = 0; card < 52; card++) {
            check.equal("lay of all in one column", table.lay(7, card), card + 1);
        }
        check.equal("the column is full", table.size(7), 52);
        check.equal("its lowest", table.card(7, 0), 0);
        check.equal("its top", table.card(7, 51), 51);
        check.refusesState("one more", () -> table.lay(0, 51));
        PatienceTable one = Tables.of(2, 0, 0, 0, 1, 1);
        check.equal("the only card", one.lay(1, 0), 1);
        check.equal("it can be played at once", one.move(1, HOME, 1), 1);
    }

    private static void layArguments(Check check) {
        for (int columns = 2; columns <= 8; columns++) {
            PatienceTable table = Tables.of(columns, 4, 0, 0, 1, 2);
            int beyond = columns;
            check.refusesArgument(columns + " columns, column " + columns, () -> table.lay(beyond, 0));
            check.refusesArgument(columns + " columns, column -1", () -> table.lay(-1, 0));
            check.equal(columns + " columns, the last one", table.lay(columns - 1, 0), 1);
            check.equal(columns + " columns, the first one", table.lay(0, 1), 2);
        }
        PatienceTable table = Tables.of(3, 4, 0, 0, 2, 2);
        for (int column : new int[] {8, 11, 12, 13, Integer.MIN_VALUE, Integer.MAX_VALUE}) {
            check.refusesArgument("lay(" + column + ", 0)", () -> table.lay(column, 0));
        }
        for (int card : new int[] {-1, 4, 52, Integer.MIN_VALUE, Integer.MAX_VALUE}) {
            check.refusesArgument("lay(0, " + card + ")", () -> table.lay(0, card));
        }
    }

    private static void layTwice(Check check) {
        PatienceTable table = Tables.told(Tables.of(3, 1, 0, 0, 2, 2), "3 0 / 2");
        check.refusesState("a top", () -> table.lay(2, 0));
        check.refusesState("one beneath", () -> table.lay(2, 3));
        check.refusesArgument("one that lies, no such column", () -> table.lay(3, 0));
        check.equal("the one that does not lie", table.lay(2, 1), 4);
        table.move(0, 8, 1);
        check.refusesState("one in a cell", () -> table.lay(2, 0));
        table.move(8, HOME, 1);
        check.refusesState("one at home", () -> table.lay(2, 0));
        check.refusesArgument("one at home, no such column", () -> table.lay(-1, 0));
        table.clear();
        check.equal("it lies nowhere after clear", table.lay(2, 0), 1);
    }

    private static void cardOfColumn(Check check) {
        PatienceTable table = Tables.told(Tables.of(3, 1, 0, 0, 2, 3), "5 3 0 / 4");
        int[] due = {NONE, 5, 3, 0, NONE, NONE};
        for (int k = -1; k <= 4; k++) {
            check.equal("three cards, k = " + k, table.card(0, k), due[k + 1]);
        }
        check.equal("one card, k = 0", table.card(1, 0), 4);
        check.equal("one card, k = 1", table.card(1, 1), NONE);
        check.equal("no card, k = 0", table.card(2, 0), NONE);
        check.equal("no card, k = -1", table.card(2, -1), NONE);
        check.equal("least k", table.card(0, Integer.MIN_VALUE), NONE);
        check.equal("greatest k", table.card(0, Integer.MAX_VALUE), NONE);
        table.lay(1, 2);
        table.lay(1, 1);
        table.move(1, HOME, 1);
        check.equal("what is gone", table.card(1, 2), NONE);
        check.equal("the top then", table.card(1, 1), 2);
    }

    private static void cardOfCell(Check check) {
        PatienceTable table = Tables.told(Tables.of(2, 4, 0, 0, 4, 1), "3 2 1 0");
        for (int cell = 8; cell <= 11; cell++) {
            check.equal("empty cell " + cell, table.card(cell, 0), NONE);
            table.move(0, cell, 1);
            check.equal("cell " + cell + ", k = 0", table.card(cell, 0), cell - 8);
            check.equal("cell " + cell + ", k = 1", table.card(cell, 1), NONE);
            check.equal("cell " + cell + ", k = -1", table.card(cell, -1), NONE);
            check.equal("cell " + cell + ", greatest k", table.card(cell, Integer.MAX_VALUE), NONE);
            check.equal("cell " + cell + ", least k", table.card(cell, Integer.MIN_VALUE), NONE);
        }
        table.move(10, HOME, 1);
        check.equal("a cell left empty", table.card(10, 0), NONE);
    }

    private static void cardAtHome(Check check) {
        for (int suits = 1; suits <= 4; suits++) {
            PatienceTable table = Tables.told(Tables.of(2, 0, 1, 0, suits, 2),
                    suits == 1 ? "1 0" : Tables.suit(suits, suits - 1, 2, 1) + "/" + others(suits));
            String what = suits + " suits, ";
            check.equal(what + "none at home", table.card(HOME, suits - 1), NONE);
            table.move(0, HOME, 1);
            check.equal(what + "rank 1 at home", table.card(HOME, suits - 1), suits - 1);
            table.move(0, HOME, 1);
            check.equal(what + "rank 2 at home", table.card(HOME, suits - 1), 2 * suits - 1);
            check.equal(what + "no such suit", table.card(HOME, suits), NONE);
            check.equal(what + "no suit at all", table.card(HOME, 4), NONE);
            check.equal(what + "suit -1", table.card(HOME, -1), NONE);
            check.equal(what + "least k", table.card(HOME, Integer.MIN_VALUE), NONE);
            check.equal(what + "greatest k", table.card(HOME, Integer.MAX_VALUE), NONE);
            check.equal(what + "suit 0", table.card(HOME, 0), suits == 1 ? 1 : NONE);
        }
    }

    /** The two ranks of all suits but the last one. */
    private static String others(int suits) {
        StringBuilder told = new StringBuilder();
        for (int suit = 0; suit < suits - 1; suit++) {
            told.append(Tables.suit(suits, suit, 2, 1));
        }
        return told.toString();
    }

    private static void sizes(Check check) {
        PatienceTable table = Tables.of(2, 1, 1, 0, 1, 3);
        check.equal("a column without cards", table.size(0), 0);
        for (int card = 2; card >= 0; card--) {
            table.lay(0, card);
            check.equal("a column with " + (3 - card), table.size(0), 3 - card);
        }
        check.equal("an empty cell", table.size(8), 0);
        check.equal("home, none", table.size(HOME), 0);
        table.move(0, 8, 1);
        check.equal("a cell in use", table.size(8), 1);
        check.equal("the column it was in", table.size(0), 2);
        for (int sent = 1; sent <= 3; sent++) {
            table.move(sent == 1 ? 8 : 0, HOME, 1);
            check.equal("home, " + sent, table.size(HOME), sent);
        }
        check.equal("the cell left empty", table.size(8), 0);
        check.equal("the column left empty", table.size(0), 0);
    }

    private static void noSuchPlace(Check check) {
        PatienceTable table = Tables.told(Tables.of(7, 3, 0, 0, 1, 2), "1 0");
        for (int place : new int[] {Integer.MIN_VALUE, -1, 7, 11, 13, 16, Integer.MAX_VALUE}) {
            check.equal("size(" + place + ")", table.size(place), NONE);
            check.equal("card(" + place + ", 0)", table.card(place, 0), NONE);
        }
        for (int place : new int[] {0, 6, 8, 10, 12}) {
            check.that("size(" + place + ")", table.size(place) >= 0);
        }
    }
}
