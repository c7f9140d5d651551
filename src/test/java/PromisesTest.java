import java.util.List;
import java.util.NoSuchElementException;

/** For each promise of the document: ordinary inputs, the edges it names, and wrong inputs. */
public final class PromisesTest {
    private static final int NONE = PatienceTable.NONE;
    private static final int HOME = 12;

    private PromisesTest() {
    }

    public static void main(String[] args) {
        Check check = new Check("promises");
        newObject(check.about("promise 1"));
        rules(check.about("promise 2"));
        cards(check.about("promise 3"));
        deal(check.about("promise 4"));
        clear(check.about("promise 5"));
        lay(check.about("promise 6"));
        move(check.about("promise 7"));
        play(check.about("promise 8"));
        sendHome(check.about("promise 9"));
        undo(check.about("promise 10"));
        log(check.about("promise 11"));
        card(check.about("promise 12"));
        size(check.about("promise 13"));
        most(check.about("promise 14"));
        look(check.about("promise 15"));
        hint(check.about("promise 16"));
        positions(check.about("promise 17"));
        check.end();
    }

    private static int[] column(int... cards) {
        return cards;
    }

    /** Cards of one suit from a greater rank down to a lesser one. */
    private static int[] falling(int suits, int suit, int from, int downTo) {
        int[] cards = new int[from - downTo + 1];
        for (int k = 0; k < cards.length; k++) {
            cards[k] = suits * (from - k - 1) + suit;
        }
        return cards;
    }

    /** Two cards, the greater one upon the lesser: three moves to the end, and none that is safe. */
    private static PatienceTable buriedAce() {
        return Tables.laid(Tables.of(2, 1, 0, 0, 1, 2), column(0, 1));
    }

    /** One card in the first of two columns, with two cells: it can be moved about for ever. */
    private static PatienceTable lonelyCard() {
        return Tables.laid(Tables.of(2, 2, 0, 0, 1, 1), column(0));
    }

    private static void unchanged(Check check, String what, PatienceTable table, Runnable calls) {
        List<Integer> before = Tables.seen(table);
        calls.run();
        check.that(what + " changed something", before.equals(Tables.seen(table)));
    }

    private static void newObject(Check check) {
        PatienceTable table = new PatienceTable();
        for (int place = 0; place <= 12; place++) {
            check.equal("size(" + place + ")", table.size(place), 0);
        }
        check.equal("size(13)", table.size(13), NONE);
        check.equal("log()", table.log(), 0);
        check.equal("hint()", table.hint(), NONE);
        check.equal("positions()", table.positions(), 0);
        check.refusesArgument("lay(8, 0)", () -> table.lay(8, 0));
        check.refusesArgument("lay(0, 52)", () -> table.lay(0, 52));
        check.refusesState("look(1)", () -> table.look(1));
        check.equal("lay(7, 51)", table.lay(7, 51), 1);
        check.equal("lay(7, 17)", table.lay(7, 17), 2);
        check.equal("lay(1, 12)", table.lay(1, 12), 3);
        check.equal("lay(2, 14)", table.lay(2, 14), 4);
        for (int card = 0; card < 51; card++) {
            if (card != 17 && card != 12 && card != 14) {
                table.lay(0, card);
            }
        }
        check.equal("a black four upon a red five", table.most(1, 7), 1);
        check.equal("a red four upon a red five", table.most(2, 7), 0);
        check.equal("any card into an empty column", table.most(2, 3), 1);
    }

    private static void rules(Check check) {
        PatienceTable table = buriedAce();
        table.move(0, 8, 1);
        table.look(9);
        unchanged(check, "rules out of bounds", table, () -> {
            check.that("rules(1, 4, 0, 0)", !table.rules(1, 4, 0, 0));
            check.that("rules(9, 4, 0, 0)", !table.rules(9, 4, 0, 0));
            check.that("rules(8, -1, 0, 0)", !table.rules(8, -1, 0, 0));
            check.that("rules(8, 5, 0, 0)", !table.rules(8, 5, 0, 0));
            check.that("rules(8, 4, -1, 0)", !table.rules(8, 4, -1, 0));
            check.that("rules(8, 4, 3, 0)", !table.rules(8, 4, 3, 0));
            check.that("rules(8, 4, 0, -1)", !table.rules(8, 4, 0, -1));
            check.that("rules(8, 4, 0, 3)", !table.rules(8, 4, 0, 3));
            check.that("rules(least int)", !table.rules(Integer.MIN_VALUE, 0, 0, 0));
            check.that("rules(greatest int)", !table.rules(2, Integer.MAX_VALUE, 0, 0));
        });
        check.that("rules(2, 0, 0, 0)", table.rules(2, 0, 0, 0));
        check.equal("log() after rules", table.log(), 0);
        check.equal("hint() after rules", table.hint(), NONE);
        check.equal("size(0) after rules", table.size(0), 0);
        check.equal("size(1) of two columns", table.size(1), 0);
        check.equal("size(2) of two columns", table.size(2), NONE);
        check.equal("size(8) without cells", table.size(8), NONE);
        check.equal("the cards stay: lay(0, 1)", table.lay(0, 1), 1);
        check.refusesArgument("the cards stay: lay(0, 2)", () -> table.lay(0, 2));
        check.that("rules(8, 4, 2, 2)", table.rules(8, 4, 2, 2));
        check.equal("size(7) of eight columns", table.size(7), 0);
        check.equal("size(11) with four cells", table.size(11), 0);
        check.equal("lay(0, 1) after rules", table.lay(0, 1), 1);
        builds(check);
        fills(check);
    }

    private static void builds(Check check) {
        int[][] due = {{0, 1, 1, 0}, {1, 0, 0, 0}, {1, 1, 1, 1}};
        for (int build = 0; build <= 2; build++) {
            for (int suit = 0; suit < 4; suit++) {
                // Ranks 1 and 2 of four suits: the first 2 lies open, and each 1 is tried upon it.
                PatienceTable table = Tables.laid(Tables.of(6, 0, build, 0, 4, 2),
                        column(5, 6, 7, 4), column(0), column(1), column(2), column(3));
                check.equal("build " + build + ", suit " + suit, table.most(suit + 1, 0), due[build][suit]);
            }
        }
        PatienceTable reds = Tables.laid(Tables.of(6, 0, 0, 0, 4, 2),
                column(4, 6, 7, 5), column(0), column(1), column(2), column(3));
        check.equal("suit 0 upon suit 1", reds.most(1, 0), 1);
        check.equal("suit 2 upon suit 1", reds.most(3, 0), 0);
        check.equal("suit 3 upon suit 1", reds.most(4, 0), 1);
        PatienceTable gap = Tables.laid(Tables.of(4, 0, 2, 0, 1, 3), column(2), column(1), column(0));
        check.equal("rank 1 upon rank 3", gap.most(2, 0), 0);
        check.equal("rank 3 upon rank 2", gap.most(0, 1), 0);
        check.equal("rank 2 upon rank 3", gap.most(1, 0), 1);
    }

    private static void fills(Check check) {
        int[][] due = {{1, 1}, {0, 1}, {0, 0}};
        for (int fill = 0; fill <= 2; fill++) {
            PatienceTable table = Tables.laid(Tables.of(3, 1, 0, fill, 1, 2), column(0), column(1));
            check.equal("rank 1 into an empty column, fill " + fill, table.most(0, 2), due[fill][0]);
            check.equal("rank 2, the greatest, fill " + fill, table.most(1, 2), due[fill][1]);
        }
    }

    private static void cards(Check check) {
        PatienceTable table = buriedAce();
        table.move(0, 8, 1);
        table.look(9);
        unchanged(check, "cards out of bounds", table, () -> {
            check.that("cards(0, 1)", !table.cards(0, 1));
            check.that("cards(5, 1)", !table.cards(5, 1));
            check.that("cards(1, 0)", !table.cards(1, 0));
            check.that("cards(1, 14)", !table.cards(1, 14));
            check.that("cards(-1, -1)", !table.cards(-1, -1));
            check.that("cards(65536, 65536)", !table.cards(65536, 65536));
        });
        check.that("cards(4, 13)", table.cards(4, 13));
        check.equal("log() after cards", table.log(), 0);
        check.equal("hint() after cards", table.hint(), NONE);
        check.equal("size(0) after cards", table.size(0), 0);
        check.equal("the rules stay: size(2)", table.size(2), NONE);
        check.equal("lay(0, 51)", table.lay(0, 51), 1);
        check.refusesArgument("lay(0, 52)", () -> table.lay(0, 52));
        check.that("cards(1, 1)", table.cards(1, 1));
        check.equal("lay(1, 0)", table.lay(1, 0), 1);
        check.refusesArgument("lay(0, 1)", () -> table.lay(0, 1));
        check.equal("move(1, 12, 1)", table.move(1, HOME, 1), 1);
    }

    private static void wellKnownDeal(Check check, int number, String rows) {
        PatienceTable table = new PatienceTable();
        table.deal(number);
        String[] told = rows.split(" ");
        for (int i = 0; i < told.length; i++) {
            int rank = "A23456789TJQK".indexOf(told[i].charAt(0)) + 1;
            int due = 4 * (rank - 1) + "CDHS".indexOf(told[i].charAt(1));
            check.equal("deal " + number + ", card " + i, table.card(i % 8, i / 8), due);
        }
    }

    private static void deal(Check check) {
        wellKnownDeal(check, 1, "JD 2D 9H JC 5D 7H 7C 5H KD KC 9S 5S AD QC KH 3H 2S KS 9D QD JS AS AH 3C "
                + "4C 5C TS QH 4H AC 4D 7S 3S TD 4S TH 8H 2C JH 7D 6D 8S 8D QS 6C 3D 8C TC 6S 9C 2H 6H");
        wellKnownDeal(check, 617, "7D AD 5C 3S 5S 8C 2D AH TD 7S QD AC 6D 8H AS KH TH QC 3H 9D 6S 8D 3D TC "
                + "KD 5H 9S 3C 8S 7H 4D JS 4C QS 9C 9H 7C 6H 2C 2S 4S TS 2H 5D JC 6C JH QH JD KS KC 4H");
        PatienceTable table = Tables.laid(Tables.of(2, 1, 0, 0, 1, 3), column(1, 2), column(0));
        table.move(0, 8, 1);
        unchanged(check, "a deal out of bounds", table, () -> {
            check.refusesArgument("deal(-1)", () -> table.deal(-1));
            check.refusesArgument("deal(32001)", () -> table.deal(32001));
            check.refusesArgument("deal(least int)", () -> table.deal(Integer.MIN_VALUE));
        });
        table.look(200);
        table.deal(0);
        check.equal("deal 0: card(0, 0)", table.card(0, 0), 2);
        check.equal("deal 0: card(1, 0)", table.card(1, 0), 1);
        check.equal("deal 0: card(0, 1)", table.card(0, 1), 0);
        check.equal("deal 0: size(8)", table.size(8), 0);
        check.equal("log() after deal", table.log(), 0);
        check.equal("hint() after deal", table.hint(), NONE);
        check.refusesState("lay when all are dealt", () -> table.lay(0, 0));
        table.deal(32000);
        check.equal("deal 32000 lays all", table.size(0) + table.size(1), 3);
    }

    private static void clear(Check check) {
        PatienceTable table = buriedAce();
        table.move(0, 8, 1);
        table.move(0, HOME, 1);
        table.look(9);
        check.equal("hint() before", table.hint(), 16 * 8 + 12);
        table.clear();
        check.equal("log()", table.log(), 0);
        check.equal("hint()", table.hint(), NONE);
        check.equal("size(0)", table.size(0), 0);
        check.equal("size(8)", table.size(8), 0);
        check.equal("size(12)", table.size(12), 0);
        check.equal("card(12, 0)", table.card(HOME, 0), NONE);
        check.throwsIt("undo()", NoSuchElementException.class, table::undo);
        check.equal("the rules and cards stay: size(2)", table.size(2), NONE);
        check.equal("lay(1, 1)", table.lay(1, 1), 1);
        check.equal("lay(1, 0)", table.lay(1, 0), 2);
        check.equal("move(1, 12, 1)", table.move(1, HOME, 1), 1);
    }

    private static void lay(Check check) {
        PatienceTable table = Tables.of(3, 1, 0, 0, 2, 2);
        check.equal("lay(2, 3)", table.lay(2, 3), 1);
        check.refusesState("a card twice", () -> table.lay(0, 3));
        check.refusesArgument("lay(-1, 0)", () -> table.lay(-1, 0));
        check.refusesArgument("lay(3, 0)", () -> table.lay(3, 0));
        check.refusesArgument("a column there is not, a card that lies", () -> table.lay(3, 3));
        check.refusesArgument("lay(8, 0), a cell", () -> table.lay(8, 0));
        check.refusesArgument("lay(12, 0), home", () -> table.lay(HOME, 0));
        check.refusesArgument("lay(0, -1)", () -> table.lay(0, -1));
        check.refusesArgument("lay(0, 4)", () -> table.lay(0, 4));
        check.equal("lay(2, 0)", table.lay(2, 0), 2);
        check.equal("lay(0, 2)", table.lay(0, 2), 3);
        check.equal("lay(2, 1)", table.lay(2, 1), 4);
        check.equal("card(2, 0)", table.card(2, 0), 3);
        check.equal("card(2, 1)", table.card(2, 1), 0);
        check.equal("card(2, 2)", table.card(2, 2), 1);
        check.equal("log()", table.log(), 0);
        table.move(2, HOME, 1);
        table.move(2, 8, 1);
        unchanged(check, "lay that throws", table, () -> {
            check.refusesState("a card at home", () -> table.lay(0, 1));
            check.refusesState("a card in a cell", () -> table.lay(0, 0));
            check.refusesState("a card in a column", () -> table.lay(0, 2));
        });
    }

    private static void move(Check check) {
        singleMoves(check);
        movesThatThrow(check);
        rowsIntoEmpty(check);
        rowsUponCards(check);
    }

    private static void singleMoves(Check check) {
        PatienceTable table = Tables.laid(Tables.of(3, 2, 0, 0, 2, 2), column(3, 0), column(2, 1));
        check.equal("column to cell", table.move(0, 9, 1), 0);
        check.refusesState("cell to cell", () -> table.move(9, 8, 1));
        check.refusesState("cell to itself", () -> table.move(9, 9, 1));
        check.refusesState("column to a cell in use", () -> table.move(1, 9, 1));
        check.equal("cell to a column on whose top it fits", table.move(9, 0, 1), 0);
        check.equal("card(0, 1)", table.card(0, 1), 0);
        check.equal("column to an empty column", table.move(0, 2, 1), 0);
        check.equal("column to a column", table.move(2, 0, 1), 0);
        check.equal("the first card home", table.move(0, HOME, 1), 1);
        check.equal("out of the way", table.move(1, 8, 1), 1);
        check.equal("the next of its suit home", table.move(1, HOME, 1), 2);
        check.refusesState("rank 2 home before rank 1", () -> table.move(0, HOME, 1));
        check.equal("cell to home", table.move(8, HOME, 1), 3);
        check.refusesState("from an empty cell", () -> table.move(8, 0, 1));
        check.refusesState("from an empty column", () -> table.move(1, 2, 1));
        check.equal("the last card home", table.move(0, HOME, 1), 4);
        check.equal("log()", table.log(), 9);
    }

    private static void movesThatThrow(Check check) {
        PatienceTable bare = Tables.of(3, 1, 2, 0, 1, 3);
        bare.lay(0, 2);
        check.refusesState("not all cards are laid", () -> bare.move(0, 8, 1));
        check.refusesArgument("a wrong argument comes first", () -> bare.move(0, 8, 0));
        PatienceTable table = Tables.laid(Tables.of(3, 1, 2, 0, 1, 3), column(2, 1, 0));
        unchanged(check, "move that throws", table, () -> {
            check.refusesArgument("move(-1, 0, 1)", () -> table.move(-1, 0, 1));
            check.refusesArgument("move(3, 0, 1)", () -> table.move(3, 0, 1));
            check.refusesArgument("move(7, 0, 1)", () -> table.move(7, 0, 1));
            check.refusesArgument("move(9, 0, 1)", () -> table.move(9, 0, 1));
            check.refusesArgument("move(12, 0, 1)", () -> table.move(HOME, 0, 1));
            check.refusesArgument("move(12, 12, 1)", () -> table.move(HOME, HOME, 1));
            check.refusesArgument("move(0, -1, 1)", () -> table.move(0, -1, 1));
            check.refusesArgument("move(0, 3, 1)", () -> table.move(0, 3, 1));
            check.refusesArgument("move(0, 9, 1)", () -> table.move(0, 9, 1));
            check.refusesArgument("move(0, 13, 1)", () -> table.move(0, 13, 1));
            check.refusesArgument("move(0, 1, 0)", () -> table.move(0, 1, 0));
            check.refusesArgument("move(0, 1, -1)", () -> table.move(0, 1, -1));
            check.refusesState("to itself", () -> table.move(0, 0, 1));
            check.refusesState("two to itself", () -> table.move(0, 0, 2));
            check.refusesState("two to a cell", () -> table.move(0, 8, 2));
            check.refusesState("two to home", () -> table.move(0, HOME, 2));
            check.refusesState("two from a cell", () -> table.move(8, 0, 2));
            check.refusesState("more than there are", () -> table.move(0, 1, 4));
            check.refusesState("far more than there are", () -> table.move(0, 1, Integer.MAX_VALUE));
        });
    }

    /** One row of 13 in the first column; with c empty cells and e empty columns beside the one it goes to. */
    private static PatienceTable longRow(int columns, int cells, int fill) {
        return Tables.laid(Tables.of(columns, cells, 1, fill, 1, 13), falling(1, 0, 13, 1));
    }

    private static void rowsIntoEmpty(Check check) {
        int[][] due = {{2, 0, 1}, {2, 1, 2}, {3, 0, 2}, {3, 1, 4}, {4, 1, 8}, {4, 2, 12}, {5, 0, 8}, {8, 4, 13}};
        for (int[] game : due) {
            String told = game[0] + " columns, " + game[1] + " cells, ";
            PatienceTable table = longRow(game[0], game[1], 0);
            check.refusesState(told + "one too many", () -> table.move(0, 1, game[2] + 1));
            check.equal(told + "as many as may be", table.move(0, 1, game[2]), 0);
            check.equal(told + "how many went", table.size(1), game[2]);
            check.equal(told + "the lowest of them", table.card(1, 0), game[2] - 1);
            check.equal(told + "the uppermost of them", table.card(1, game[2] - 1), 0);
        }
        PatienceTable greatest = Tables.laid(Tables.of(4, 2, 1, 1, 1, 3), column(2, 1, 0));
        check.refusesState("fill 1, the lowest is not the greatest", () -> greatest.move(0, 1, 2));
        check.equal("fill 1, the lowest is the greatest", greatest.move(0, 1, 3), 0);
        PatienceTable one = Tables.laid(Tables.of(4, 1, 1, 1, 1, 3), column(2, 1, 0));
        check.refusesState("fill 1, empty columns do not help", () -> one.move(0, 1, 3));
        PatienceTable never = Tables.laid(Tables.of(4, 4, 1, 2, 1, 3), column(2, 1, 0));
        check.refusesState("fill 2", () -> never.move(0, 1, 3));
        PatienceTable broken = Tables.laid(Tables.of(4, 4, 1, 0, 1, 3), column(1, 2, 0));
        check.refusesState("no row", () -> broken.move(0, 1, 2));
        PatienceTable colours = Tables.laid(Tables.of(4, 4, 0, 0, 4, 2), column(4, 5, 6, 7, 1, 2, 3, 0));
        check.refusesState("no row of colours", () -> colours.move(0, 1, 2));
    }

    private static void rowsUponCards(Check check) {
        PatienceTable table = Tables.laid(Tables.of(4, 0, 1, 0, 1, 6), column(4, 3, 2, 1, 0), column(5));
        check.refusesState("five with two empty columns", () -> table.move(0, 1, 5));
        check.refusesState("the lowest does not fit", () -> table.move(0, 1, 4));
        table.move(0, 2, 1);
        check.refusesState("four with one empty column", () -> table.move(0, 1, 4));
        table.move(0, 3, 1);
        table.move(2, 3, 1);
        check.refusesState("three with one empty column", () -> table.move(0, 1, 3));
        PatienceTable enough = Tables.laid(Tables.of(4, 1, 1, 0, 1, 6), column(4, 3, 2, 1, 0), column(5));
        check.equal("five of eight", enough.move(0, 1, 5), 0);
        check.equal("they lie as they lay", enough.card(1, 1), 4);
        check.equal("they lie as they lay, top", enough.card(1, 5), 0);
        check.equal("none is left", enough.size(0), 0);
        check.equal("one move", enough.log(), 1);
        PatienceTable strict = Tables.laid(Tables.of(4, 2, 1, 2, 1, 6), column(0, 4, 3, 2), column(1, 5));
        strict.move(0, 8, 1);
        check.refusesState("fill 2, one cell empty: two at most", () -> strict.move(0, 1, 3));
        check.equal("fill 2, two", strict.move(0, 1, 2), 0);
    }

    private static void play(Check check) {
        PatienceTable table = Tables.laid(Tables.of(8, 4, 1, 0, 1, 13), falling(1, 0, 13, 1));
        check.equal("1 to 8: all", table.play('1', '8'), 13);
        check.equal("size(7)", table.size(7), 13);
        check.equal("8 to a", table.play('8', 'a'), 1);
        check.equal("8 to d", table.play('8', 'd'), 1);
        check.equal("card(11, 0)", table.card(11, 0), 1);
        check.equal("d to 2", table.play('d', '2'), 1);
        check.equal("a to h", table.play('a', 'h'), 1);
        check.equal("2 to h", table.play('2', 'h'), 1);
        check.equal("size(12)", table.size(HOME), 2);
        check.equal("log()", table.log(), 6);
        unchanged(check, "play that throws", table, () -> {
            check.refusesState("from an empty column", () -> table.play('1', '2'));
            check.refusesState("from an empty cell", () -> table.play('a', '1'));
            check.refusesState("to itself", () -> table.play('8', '8'));
            check.refusesState("a cell to itself", () -> table.play('a', 'a'));
            check.refusesArgument("from home", () -> table.play('h', '1'));
            for (char none : "09Hei AD\u0000\u1234\uffff/:`".toCharArray()) {
                check.refusesArgument("from " + (int) none, () -> table.play(none, '1'));
                check.refusesArgument("to " + (int) none, () -> table.play('8', none));
            }
        });
        PatienceTable small = Tables.of(3, 1, 1, 0, 1, 3);
        small.lay(0, 0);
        check.refusesState("not all cards are laid", () -> small.play('1', '2'));
        check.refusesState("not all cards are laid, home", () -> small.play('1', 'h'));
        check.refusesArgument("a wrong character comes first", () -> small.play('x', '2'));
        small.lay(1, 2);
        small.lay(2, 1);
        check.refusesArgument("no fourth column", () -> small.play('1', '4'));
        check.refusesArgument("no second cell", () -> small.play('1', 'b'));
        check.equal("1 to 3", small.play('1', '3'), 1);
        check.equal("3 to 2: the whole row", small.play('3', '2'), 2);
        check.refusesState("a column into which no row can go", () -> small.play('3', '1'));
    }

    private static void sendHome(Check check) {
        PatienceTable bare = Tables.of(2, 1, 0, 0, 1, 2);
        bare.lay(0, 0);
        check.refusesState("not all cards are laid", bare::sendHome);
        check.equal("nothing is safe", buriedAce().sendHome(), 0);
        sendHomeByBuild(check);
        sendHomeOrder(check);
    }

    private static void sendHomeByBuild(Check check) {
        int[] dueOfTwo = {2, 3, 2};
        int[] dueOfFour = {7, 9, 6};
        for (int build = 0; build <= 2; build++) {
            // Suit 0 lies ready to go home; the 1 of the other colour lies beneath its 2 and 3.
            PatienceTable two = Tables.laid(Tables.of(2, 0, build, 0, 2, 3), column(1, 3, 5), column(4, 2, 0));
            check.equal("build " + build + ", the other colour is not home", two.sendHome(), dueOfTwo[build]);
            check.equal("build " + build + ", log()", two.log(), dueOfTwo[build]);
            // All but suit 3, black like suit 0, lie ready to go home.
            PatienceTable four = Tables.laid(Tables.of(5, 0, build, 0, 4, 3),
                    column(3, 7, 11), column(8, 4, 0), column(9, 5, 1), column(10, 6, 2));
            check.equal("build " + build + ", one black suit is not home", four.sendHome(), dueOfFour[build]);
        }
        PatienceTable oneColour = Tables.laid(Tables.of(2, 0, 0, 0, 1, 13), falling(1, 0, 13, 1));
        check.equal("no card of the other colour is in play", oneColour.sendHome(), 13);
        PatienceTable rankTwo = Tables.laid(Tables.of(2, 0, 2, 0, 2, 2), column(1, 3), column(2, 0));
        check.equal("rank 2 is safe before the other 1 is home", rankTwo.sendHome(), 2);
        PatienceTable later = Tables.laid(Tables.of(4, 0, 0, 0, 2, 4),
                column(6, 4, 2, 0), column(7, 5, 3, 1));
        check.equal("each makes the next one safe", later.sendHome(), 8);
        check.equal("nothing is left to send", later.sendHome(), 0);
    }

    private static void sendHomeOrder(Check check) {
        PatienceTable table = Tables.laid(Tables.of(3, 2, 0, 0, 4, 1), column(0, 1), column(2), column(3));
        table.move(2, 8, 1);
        table.move(0, 9, 1);
        check.equal("sendHome()", table.sendHome(), 4);
        check.equal("each has a move of its own", table.log(), 6);
        table.undo();
        check.equal("the last one came from column 1", table.size(1), 1);
        table.undo();
        check.equal("the one before from column 0", table.size(0), 1);
        table.undo();
        check.equal("the second one from cell 9", table.size(9), 1);
        check.equal("not yet cell 8", table.size(8), 0);
        table.undo();
        check.equal("the first one from cell 8", table.size(8), 1);
        PatienceTable again = Tables.laid(Tables.of(2, 1, 1, 0, 2, 2), column(2, 0), column(3, 1));
        again.sendHome();
        again.undo();
        check.equal("column 0 is gone through again before column 1", again.card(1, 0), 3);
        again.undo();
        check.equal("column 1 has both cards after column 0 has none", again.size(1), 2);
        check.equal("column 0 was emptied first", again.size(0), 0);
        PatienceTable cellAgain = Tables.laid(Tables.of(2, 1, 1, 0, 2, 2), column(0, 2), column(3, 1));
        cellAgain.move(0, 8, 1);
        cellAgain.sendHome();
        cellAgain.undo();
        cellAgain.undo();
        check.equal("the cell comes before column 1 as soon as it can", cellAgain.size(8), 0);
        cellAgain.undo();
        check.equal("the cell came second", cellAgain.size(8), 1);
    }

    private static void undo(Check check) {
        PatienceTable table = Tables.laid(Tables.of(4, 1, 1, 0, 1, 6), column(4, 3, 2, 1, 0), column(5));
        check.throwsIt("undo() of nothing", NoSuchElementException.class, table::undo);
        List<Integer> start = Tables.seen(table);
        table.move(0, 1, 5);
        table.move(1, HOME, 1);
        table.move(1, 8, 1);
        table.move(8, HOME, 1);
        table.play('2', '3');
        check.equal("a row", table.undo(), 4);
        check.equal("its column is empty", table.size(2), 0);
        check.equal("it is back", table.size(1), 4);
        check.equal("a card from home to its cell", table.undo(), 1);
        check.equal("card(8, 0)", table.card(8, 0), 1);
        check.equal("card(12, 0)", table.card(HOME, 0), 0);
        check.equal("a card from its cell to its column", table.undo(), 1);
        check.equal("a card from home to its column", table.undo(), 1);
        check.equal("card(12, 0) then", table.card(HOME, 0), NONE);
        check.equal("log()", table.log(), 1);
        check.equal("the first row", table.undo(), 5);
        check.that("all is as it was", start.equals(Tables.seen(table)));
        check.throwsIt("undo() of all", NoSuchElementException.class, table::undo);
        check.equal("a move after undo", table.move(0, 8, 1), 0);
        check.equal("undo of that", table.undo(), 1);
    }

    private static void log(Check check) {
        PatienceTable table = lonelyCard();
        check.equal("log() at first", table.log(), 0);
        check.refusesState("a move that is not allowed", () -> table.move(1, 0, 1));
        check.equal("log() after it", table.log(), 0);
        for (int k = 0; k < 60; k++) {
            table.move(k % 2, 1 - k % 2, 1);
            check.equal("log() after move " + k, table.log(), k + 1);
        }
        table.move(0, 8, 1);
        check.equal("log() after the 61st move", table.log(), 60);
        table.move(8, HOME, 1);
        check.equal("log() after the 62nd move", table.log(), 60);
        table.undo();
        check.equal("log() after an undo", table.log(), 59);
        table.move(8, 1, 1);
        check.equal("log() after one more move", table.log(), 60);
        table.undo();
        for (int k = 59; k > 0; k--) {
            check.equal("undo() with " + k, table.undo(), 1);
        }
        check.equal("log() at last", table.log(), 0);
        check.equal("the two oldest moves stay", table.card(0, 0), 0);
        check.throwsIt("undo() of the oldest", NoSuchElementException.class, table::undo);
    }

    private static void card(Check check) {
        PatienceTable table = Tables.laid(Tables.of(2, 2, 0, 0, 2, 2), column(2, 0), column(3, 1));
        check.equal("lowest", table.card(0, 0), 2);
        check.equal("top", table.card(0, 1), 0);
        check.equal("above the top", table.card(0, 2), NONE);
        check.equal("k below 0", table.card(0, -1), NONE);
        check.equal("least k", table.card(0, Integer.MIN_VALUE), NONE);
        check.equal("greatest k", table.card(0, Integer.MAX_VALUE), NONE);
        check.equal("an empty cell", table.card(9, 0), NONE);
        check.equal("home, no card", table.card(HOME, 0), NONE);
        table.move(1, 9, 1);
        check.equal("a cell", table.card(9, 0), 1);
        check.equal("a cell, k = 1", table.card(9, 1), NONE);
        check.equal("a cell, k = -1", table.card(9, -1), NONE);
        table.move(9, HOME, 1);
        table.move(1, HOME, 1);
        check.equal("home, suit 1", table.card(HOME, 1), 3);
        check.equal("home, suit 0", table.card(HOME, 0), NONE);
        check.equal("home, no such suit", table.card(HOME, 2), NONE);
        check.equal("home, no suit at all", table.card(HOME, 4), NONE);
        check.equal("home, k = -1", table.card(HOME, -1), NONE);
        check.equal("home, greatest k", table.card(HOME, Integer.MAX_VALUE), NONE);
        PatienceTable allSuits = Tables.laid(Tables.of(2, 0, 0, 0, 4, 1), column(0, 1, 2, 3));
        allSuits.sendHome();
        check.equal("home, the last of four suits", allSuits.card(HOME, 3), 3);
        check.equal("home, a fifth suit", allSuits.card(HOME, 4), NONE);
        for (int place : new int[] {-1, 2, 7, 10, 11, 13, Integer.MIN_VALUE, Integer.MAX_VALUE}) {
            check.equal("card(" + place + ", 0)", table.card(place, 0), NONE);
        }
    }

    private static void size(Check check) {
        PatienceTable table = Tables.of(3, 2, 0, 0, 2, 2);
        table.lay(1, 0);
        check.equal("size(1) before all are laid", table.size(1), 1);
        table.lay(1, 1);
        table.lay(1, 2);
        table.lay(0, 3);
        check.equal("size(1)", table.size(1), 3);
        check.equal("size(0)", table.size(0), 1);
        check.equal("size(2)", table.size(2), 0);
        table.move(1, 9, 1);
        check.equal("size(9)", table.size(9), 1);
        check.equal("size(8)", table.size(8), 0);
        check.equal("size(12)", table.size(HOME), 0);
        table.move(1, HOME, 1);
        table.move(1, HOME, 1);
        check.equal("size(12) then", table.size(HOME), 2);
        for (int place : new int[] {-1, 3, 7, 10, 11, 13, Integer.MIN_VALUE, Integer.MAX_VALUE}) {
            check.equal("size(" + place + ")", table.size(place), NONE);
        }
        PatienceTable all = new PatienceTable();
        for (int card = 0; card < 52; card++) {
            all.lay(3, card);
        }
        check.equal("all cards in one column", all.size(3), 52);
        check.equal("the lowest of all", all.card(3, 0), 0);
        check.equal("the top of all", all.card(3, 51), 51);
    }

    private static void most(Check check) {
        check.equal("(0 + 1) * 2^0", longRow(2, 0, 0).most(0, 1), 1);
        check.equal("(1 + 1) * 2^1", longRow(3, 1, 0).most(0, 1), 4);
        check.equal("(2 + 1) * 2^2", longRow(4, 2, 0).most(0, 3), 12);
        check.equal("no more than there are", longRow(8, 4, 0).most(0, 7), 13);
        check.equal("fill 1, the greatest is too deep", longRow(8, 4, 1).most(0, 1), 0);
        check.equal("fill 2", longRow(8, 4, 2).most(0, 1), 0);
        PatienceTable greatest = Tables.laid(Tables.of(3, 2, 1, 1, 1, 3), column(2, 1, 0));
        check.equal("fill 1, down to the greatest", greatest.most(0, 1), 3);
        PatienceTable table = Tables.of(3, 1, 1, 0, 1, 4);
        Tables.laid(table, column(2, 1), column(3));
        check.equal("not all cards are laid", table.most(0, 1), 0);
        table.lay(0, 0);
        check.equal("upon a card", table.most(0, 1), 3);
        check.equal("into an empty column", table.most(0, 2), 2);
        check.equal("from an empty column", table.most(2, 0), 0);
        check.equal("it does not fit", table.most(1, 0), 0);
        check.equal("the same", table.most(0, 0), 0);
        for (int place : new int[] {-1, 3, 8, 12, 13, Integer.MIN_VALUE, Integer.MAX_VALUE}) {
            check.equal("most(0, " + place + ")", table.most(0, place), 0);
            check.equal("most(" + place + ", 2)", table.most(place, 2), 0);
        }
    }

    private static void look(Check check) {
        PatienceTable table = Tables.of(2, 1, 0, 0, 1, 2);
        table.lay(0, 0);
        check.refusesState("not all cards are laid", () -> table.look(200));
        check.refusesArgument("a wrong argument comes first", () -> table.look(0));
        table.lay(0, 1);
        unchanged(check, "look that throws", table, () -> {
            check.refusesArgument("look(0)", () -> table.look(0));
            check.refusesArgument("look(-1)", () -> table.look(-1));
            check.refusesArgument("look(201)", () -> table.look(201));
        });
        check.equal("three moves", table.look(200), 3);
        check.equal("look changes nothing", table.size(0), 2);
        check.equal("look is no move", table.log(), 0);
        check.equal("one is too little fuel", table.look(1), PatienceTable.UNKNOWN);
        table.move(0, 8, 1);
        table.move(0, HOME, 1);
        check.equal("the end counts even beyond the fuel", table.look(1), 1);
        table.move(8, HOME, 1);
        check.equal("all at home", table.look(1), 0);
        PatienceTable lost = Tables.laid(Tables.of(2, 0, 2, 2, 1, 3), column(0, 2), column(1));
        check.equal("lost after one move", lost.look(200), PatienceTable.LOST);
        check.equal("both positions", lost.positions(), 1 + 1);
        check.equal("lost with just enough fuel", lost.look(2), PatienceTable.LOST);
        check.equal("too little to know", lost.look(1), PatienceTable.UNKNOWN);
        likeness(check);
    }

    /** How many positions there are tells which ones count as alike. */
    private static void likeness(Check check) {
        PatienceTable stuck = Tables.laid(Tables.of(2, 2, 1, 2, 1, 3), column(0, 2), column(1));
        check.equal("cells in any order", stuck.look(200), 4);
        PatienceTable cells = Tables.laid(Tables.of(2, 4, 1, 2, 1, 5), column(0, 1, 3, 2, 4));
        check.equal("four cells to unbury", cells.look(200), 9);
        PatienceTable columns = Tables.laid(Tables.of(8, 0, 1, 0, 2, 1), column(0), column(1));
        check.equal("columns in any order", columns.look(200), 2);
        check.equal("they are told apart by their cards alone", columns.positions(), 1 + 2);
    }

    private static void hint(Check check) {
        PatienceTable table = buriedAce();
        check.equal("hint() before look", table.hint(), NONE);
        table.look(200);
        check.equal("the least move: 0 to 1", table.hint(), 1);
        unchanged(check, "what moves no card", table, () -> {
            check.equal("sendHome()", table.sendHome(), 0);
            check.refusesState("move", () -> table.move(0, HOME, 1));
            check.refusesState("lay", () -> table.lay(0, 0));
            check.refusesArgument("deal", () -> table.deal(-1));
            check.refusesArgument("look", () -> table.look(0));
            check.throwsIt("undo", NoSuchElementException.class, table::undo);
            check.that("rules", !table.rules(0, 0, 0, 0));
            check.that("cards", !table.cards(0, 0));
        });
        table.look(1);
        check.equal("hint() when unknown", table.hint(), NONE);
        table.look(200);
        check.equal("hint() when known again", table.hint(), 1);
        table.move(0, 8, 1);
        check.equal("hint() after move", table.hint(), NONE);
        table.look(200);
        check.equal("the lower card home", table.hint(), 12);
        table.undo();
        check.equal("hint() after undo", table.hint(), NONE);
        table.look(200);
        table.play('1', 'a');
        check.equal("hint() after play", table.hint(), NONE);
        table.look(200);
        check.equal("sendHome() sends two", table.sendHome(), 2);
        check.equal("hint() after sendHome", table.hint(), NONE);
        check.equal("distance 0", table.look(200), 0);
        check.equal("hint() at the end", table.hint(), NONE);
        hintAfterTurningOver(check);
        hintIsTheLeast(check);
    }

    private static void hintAfterTurningOver(Check check) {
        PatienceTable table = buriedAce();
        table.look(200);
        table.rules(2, 1, 0, 0);
        check.equal("hint() after rules", table.hint(), NONE);
        Tables.laid(table, column(0, 1)).look(200);
        table.cards(1, 2);
        check.equal("hint() after cards", table.hint(), NONE);
        Tables.laid(table, column(0, 1)).look(200);
        table.clear();
        check.equal("hint() after clear", table.hint(), NONE);
        Tables.laid(table, column(0, 1)).look(200);
        table.deal(7);
        check.equal("hint() after deal", table.hint(), NONE);
        PatienceTable lost = Tables.laid(Tables.of(2, 0, 2, 2, 1, 3), column(0, 2), column(1));
        lost.look(200);
        check.equal("hint() when lost", lost.hint(), NONE);
    }

    private static void hintIsTheLeast(Check check) {
        PatienceTable cells = Tables.laid(Tables.of(2, 2, 1, 2, 2, 1), column(), column(0, 1));
        cells.look(200);
        check.equal("from column 1 home", cells.hint(), 16 + 12);
        PatienceTable filled = Tables.laid(Tables.of(3, 2, 1, 2, 1, 3), column(2), column(0, 1));
        filled.look(200);
        check.equal("upon column 0 rather than to a cell", filled.hint(), 16);
        PatienceTable toCell = Tables.laid(Tables.of(2, 3, 1, 2, 1, 3), column(1), column(0, 2));
        toCell.look(200);
        check.equal("the least empty cell", toCell.hint(), 16 + 8);
        toCell.move(1, 9, 1);
        toCell.look(200);
        check.equal("then home", toCell.hint(), 16 + 12);
        toCell.move(1, HOME, 1);
        toCell.move(0, HOME, 1);
        toCell.look(200);
        check.equal("from the cell home", toCell.hint(), 16 * 9 + 12);
    }

    private static void positions(Check check) {
        PatienceTable table = buriedAce();
        check.equal("before look", table.positions(), 0);
        table.look(1);
        check.equal("unknown at level 1", table.positions(), 1);
        table.look(200);
        // The start; 2 in a column or a cell; then 1 home, or 1 and 2 in each other's kind of place.
        check.equal("levels 0 to 2", table.positions(), 1 + 2 + 3);
        check.refusesArgument("look(0)", () -> table.look(0));
        check.equal("after a look that threw", table.positions(), 6);
        table.move(0, 8, 1);
        check.equal("after move", table.positions(), 6);
        table.clear();
        check.equal("after clear", table.positions(), 6);
        check.refusesState("look at an empty table", () -> table.look(5));
        check.equal("after a look at it", table.positions(), 6);
        table.rules(3, 1, 1, 1);
        table.cards(1, 1);
        check.equal("after rules and cards", table.positions(), 6);
        table.deal(1);
        check.equal("after deal", table.positions(), 6);
        check.equal("distance 1", table.look(1), 1);
        check.equal("level 0 alone", table.positions(), 1);
        table.sendHome();
        check.equal("distance 0", table.look(1), 0);
        check.equal("no level before it", table.positions(), 0);
    }
}
