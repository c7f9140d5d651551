import java.util.List;
import java.util.function.Consumer;
import java.util.function.Supplier;

/** Both sides of each boundary that the document names for looking, hints and the number of positions. */
public final class BoundsOfLookTest {
    private static final int NONE = PatienceTable.NONE;
    private static final int UNKNOWN = PatienceTable.UNKNOWN;
    private static final int LOST = PatienceTable.LOST;
    private static final int HOME = 12;

    private BoundsOfLookTest() {
    }

    public static void main(String[] args) {
        Check check = new Check("bounds of looking");
        fuel(check.about("promise 15, 'when n is not 1 .. 200', 'when not all cards are laid'"));
        changesNothing(check.about("promise 15, looking moves no card"));
        levels(check.about("'The levels are gone through'"));
        longWay(check.about("'its number (from 0) is the DISTANCE', as many levels as cards"));
        allCards(check.about("'ranks 1 .. 13', looking with all 52 cards"));
        allTheFuel(check.about("'if one, together with those before, has more than n', n = 200"));
        distanceFirst(check.about("'these in this order'"));
        alikeColumns(check.about("'the same columns, in any order'"));
        alikeCells(check.about("'the same in cells'"));
        notAlike(check.about("'ALIKE', what is not"));
        rulesInLook(check.about("'that a single move brings about', by BUILD and FILL"));
        hintOrNone(check.about("promise 16, 'NONE when .. there was no distance above 0'"));
        hintGone(check.about("promise 16, 'since a card was laid or moved the last time'"));
        hintKept(check.about("promise 16, what lays and moves no card"));
        hintLeast(check.about("promise 16, 'the least one'"));
        hintEdges(check.about("promise 16, '16 * from + to'"));
        hintLeads(check.about("promise 16, 'whose distance is one less'"));
        positionsKept(check.about("promise 17, 'when it was looked latest'"));
        positionsNone(check.about("promise 17, '0 for a distance 0', '0 before'"));
        check.end();
    }

    private static void fuel(Check check) {
        PatienceTable table = Tables.of(2, 1, 0, 0, 1, 2);
        for (int left = 2; left >= 0; left--) {
            for (int n : new int[] {Integer.MIN_VALUE, -200, -1, 0, 201, 202, 256, Integer.MAX_VALUE}) {
                check.equal(left + " not laid, look(" + n + ")", Answer.of(() -> table.look(n)), Answer.ARGUMENT);
            }
            for (int n : new int[] {1, 2, 199, 200}) {
                int due = left > 0 ? Answer.STATE : n < 6 ? UNKNOWN : 3;
                check.equal(left + " not laid, look(" + n + ")", Answer.of(() -> table.look(n)), due);
            }
            if (left > 0) {
                table.lay(0, 2 - left);
            }
        }
    }

    private static void changesNothing(Check check) {
        for (int n : new int[] {1, 5, 200}) {
            PatienceTable table = Tables.told(Tables.of(3, 2, 0, 0, 2, 3), "0 4 3 / 1 2 5");
            table.move(0, 9, 1);
            List<Integer> before = Tables.seen(table);
            table.look(n);
            List<Integer> after = Tables.seen(table);
            int told = before.size() - 2;
            check.that("look(" + n + ")", before.subList(0, told).equals(after.subList(0, told)));
            check.equal("the log's move", table.undo(), 1);
        }
    }

    /** For each fuel: the answer by the levels' sizes, and how many positions lie before the level that decides. */
    private static void byLevels(Check check, PatienceTable table, int end, int... sizes) {
        for (int n = 1; n <= 200; n++) {
            int before = 0;
            int level = 0;
            while (level < sizes.length && before + sizes[level] <= n) {
                before += sizes[level];
                level++;
            }
            check.equal("look(" + n + ")", table.look(n), level == sizes.length ? end : UNKNOWN);
            check.equal("positions() after look(" + n + ")", table.positions(), before);
        }
    }

    private static void levels(Check check) {
        // Two ranks, nothing fits on anything: 2 goes aside to a column or a cell, then 1 home or aside.
        byLevels(check, Tables.told(Tables.of(2, 1, 0, 0, 1, 2), "0 1"), 3, 1, 2, 3);
        // No move at all: level 1 has none.
        byLevels(check, Tables.told(Tables.of(2, 0, 2, 2, 1, 2), "0 1"), LOST, 1);
        // One move, and none after it.
        byLevels(check, Tables.told(Tables.of(2, 0, 2, 2, 1, 3), "0 2/1"), LOST, 1, 1);
        // The last card.
        byLevels(check, Tables.told(Tables.of(8, 4, 0, 0, 1, 1), "0"), 1, 1);
        // Four aces: of k cards gone from the columns none, one or two are in the two cells.
        byLevels(check, Tables.told(Tables.of(2, 2, 0, 2, 4, 1), "0 1/2 3"), 4, 1, 2 * 2, 3 * 4, 2 * 7);
    }

    private static void longWay(Check check) {
        int[] ones = new int[52];
        java.util.Arrays.fill(ones, 1);
        byLevels(check, Tables.told(Tables.of(2, 0, 1, 2, 4, 13), Tables.suit(1, 0, 52, 1)), 52, ones);
    }

    /** Each of the four greatest cards lies upon the next lesser one of its suit; all others are at home. */
    private static void allCards(Check check) {
        for (int suit = 0; suit < 4; suit++) {
            PatienceTable table = Tables.of(2, 1, 1, 2, 4, 13);
            table.lay(0, 44 + suit);
            table.lay(0, 48 + suit);
            for (int card = 51; card >= 0; card--) {
                if (card % 4 != suit || card < 44) {
                    table.lay(1, card);
                }
            }
            check.equal("50 go home", table.sendHome(), 50);
            check.equal("suit " + suit + ", three moves", table.look(200), 3);
            check.equal("suit " + suit + ", first to the cell", table.hint(), 8);
            check.equal("suit " + suit + ", the positions before", table.positions(), 1 + 1 + 1);
        }
    }

    /** The answer as soon as there is fuel for the positions before it, and not before. */
    private static void justEnough(Check check, Supplier<PatienceTable> made, int answer, int passed) {
        PatienceTable table = made.get();
        check.equal("look(" + passed + ")", table.look(passed), answer);
        check.equal("positions() then", table.positions(), passed);
        check.that("hint() then", table.hint() != NONE == answer > 0);
        check.equal("look(" + (passed - 1) + ")", table.look(passed - 1), UNKNOWN);
        check.that("positions() then", table.positions() < passed);
        check.equal("hint() then", table.hint(), NONE);
    }

    private static void allTheFuel(Check check) {
        justEnough(check, () -> Tables.told(Tables.of(3, 1, 1, 0, 2, 4), "0 7 2 6 5 4 1 3"), 12, 200);
        justEnough(check, () -> Tables.told(Tables.of(5, 1, 0, 0, 2, 3), "3 1 0 4 2 5"), 9, 200);
        justEnough(check, () -> Tables.told(Tables.of(4, 0, 2, 1, 2, 4), "2 1 3 6/4 0 5 7"), 11, 200);
        justEnough(check, () -> Tables.told(Tables.of(4, 0, 2, 2, 3, 3), "4 7 6 0/3/1 5/8 2"), LOST, 200);
        justEnough(check, () -> Tables.told(Tables.of(2, 2, 0, 1, 3, 3), "3 2 7 1/5 6 8 4 0"), 10, 199);
        justEnough(check, () -> Tables.told(Tables.of(4, 2, 2, 2, 2, 5), "5 1 7/0 6 9 8/3 2 4"), LOST, 199);
        PatienceTable far = Tables.told(Tables.of(2, 2, 1, 1, 3, 3), "3 5 8 4 2 6/0 7 1");
        check.equal("201 positions before an end after 11", far.look(200), UNKNOWN);
        PatienceTable near = Tables.told(Tables.of(4, 2, 0, 2, 2, 3), "2/5 0/4/3 1");
        check.equal("201 positions before an end after 6", near.look(200), UNKNOWN);
        PatienceTable lost = Tables.told(Tables.of(5, 0, 2, 2, 3, 3), "2 1/5 4/7 8/0 6/3");
        check.equal("201 positions and no end", lost.look(200), UNKNOWN);
    }

    private static void distanceFirst(Check check) {
        PatienceTable table = Tables.told(Tables.of(8, 4, 0, 0, 1, 1), "0");
        check.equal("the end in a level of more than n", table.look(1), 1);
        check.equal("its hint", table.hint(), HOME);
        check.equal("the level before it", table.positions(), 1);
        table.move(0, HOME, 1);
        check.equal("the end in the first level", table.look(1), 0);
        PatienceTable lost = Tables.told(Tables.of(2, 0, 0, 2, 1, 2), "0 1");
        check.equal("no position in a level, n = 1", lost.look(1), LOST);
        check.equal("one position before it", lost.positions(), 1);
    }

    private static void alikeColumns(Check check) {
        // Each of two aces may wander through six empty columns: that is no other position.
        byLevels(check, Tables.told(Tables.of(8, 0, 1, 0, 2, 1), "0/1"), 2, 1, 2);
        // 2 to any of three columns is one position; then 1 goes home, or upon it.
        byLevels(check, Tables.told(Tables.of(4, 0, 1, 0, 1, 2), "0 1"), 3, 1, 1, 2);
        byLevels(check, Tables.told(Tables.of(4, 0, 1, 0, 1, 2), "//0 1"), 3, 1, 1, 2);
    }

    private static void alikeCells(Check check) {
        // As many are set aside as there are cells, one after the other: which cell has which does not count.
        byLevels(check, Tables.told(Tables.of(2, 2, 1, 2, 1, 4), "0 2 1 3"), LOST, 1, 1, 1);
        byLevels(check, Tables.told(Tables.of(2, 4, 1, 2, 1, 6), "0 2 1 4 3 5"), LOST, 1, 1, 1, 1, 1);
        // With 5 and 3 set aside: 4 goes aside or 3 back upon it; then 1 goes aside.
        PatienceTable other = Tables.told(Tables.of(2, 4, 1, 2, 1, 6), "0 2 1 4 3 5");
        other.move(0, 11, 1);
        other.move(0, 9, 1);
        byLevels(check, other, LOST, 1, 2, 1);
    }

    private static void notAlike(Check check) {
        // 2 beneath 1 is another position than 1 beneath 2.
        byLevels(check, Tables.told(Tables.of(2, 0, 1, 0, 1, 2), "0 1"), 3, 1, 1, 2);
        // The same card in a cell, in a column of its own and at home are three.
        byLevels(check, Tables.told(Tables.of(2, 1, 0, 0, 2, 1), "0 1"), 2, 1, 3);
        // Without the cell two.
        byLevels(check, Tables.told(Tables.of(2, 0, 0, 0, 2, 1), "0 1"), 2, 1, 2);
        // Without the cell and with nothing for an empty column one.
        byLevels(check, Tables.told(Tables.of(2, 0, 0, 2, 2, 1), "0 1"), 2, 1, 1);
    }

    private static void rulesInLook(Check check) {
        int[] greatest = {3, 3, LOST};
        int[] lesser = {4, LOST, LOST};
        for (int fill = 0; fill <= 2; fill++) {
            check.equal("FILL " + fill + ", the greatest must go to the empty column",
                    Tables.told(Tables.of(2, 0, 1, fill, 1, 2), "0 1").look(200), greatest[fill]);
            check.equal("FILL " + fill + ", a lesser one must",
                    Tables.told(Tables.of(3, 0, 0, fill, 1, 3), "0 1/2").look(200), lesser[fill]);
        }
        int[] otherColour = {7, LOST, 7};
        int[] sameSuit = {LOST, 7, 7};
        for (int build = 0; build <= 2; build++) {
            check.equal("BUILD " + build + ", a red 2 must go upon a black 3",
                    Tables.told(Tables.of(2, 0, build, 2, 2, 3), "5 2 1 0 3/4").look(200), otherColour[build]);
            check.equal("BUILD " + build + ", a red 2 must go upon its own suit's 3",
                    Tables.told(Tables.of(2, 0, build, 2, 2, 3), "4 2 1 0 3/5").look(200), sameSuit[build]);
        }
    }

    /** Two cards, the greater one upon the lesser: three moves to the end. */
    private static PatienceTable buried() {
        return Tables.told(Tables.of(2, 1, 0, 0, 1, 2), "0 1");
    }

    private static void hintOrNone(Check check) {
        PatienceTable table = buried();
        check.equal("before", table.hint(), NONE);
        table.look(5);
        check.equal("unknown", table.hint(), NONE);
        table.look(6);
        check.equal("distance 3", table.hint(), 1);
        table.look(5);
        check.equal("unknown again", table.hint(), NONE);
        table.move(0, 1, 1);
        table.move(0, HOME, 1);
        table.look(1);
        check.equal("distance 1", table.hint(), 16 + HOME);
        table.move(1, HOME, 1);
        table.look(1);
        check.equal("distance 0", table.hint(), NONE);
        PatienceTable lost = Tables.told(Tables.of(2, 0, 2, 2, 1, 3), "0 2/1");
        lost.look(200);
        check.equal("lost", lost.hint(), NONE);
    }

    private static void gone(Check check, String what, Consumer<PatienceTable> call) {
        PatienceTable table = buried();
        table.move(0, 8, 1);
        table.look(200);
        check.equal("before " + what, table.hint(), HOME);
        call.accept(table);
        check.equal("after " + what, table.hint(), NONE);
    }

    private static void hintGone(Check check) {
        gone(check, "move", table -> table.move(8, 1, 1));
        gone(check, "a move and its undo", table -> {
            table.move(8, 1, 1);
            table.undo();
        });
        gone(check, "play", table -> table.play('a', '2'));
        gone(check, "sendHome", PatienceTable::sendHome);
        gone(check, "undo", PatienceTable::undo);
        gone(check, "rules", table -> table.rules(2, 1, 0, 0));
        gone(check, "cards", table -> table.cards(1, 2));
        gone(check, "clear", PatienceTable::clear);
        gone(check, "deal", table -> table.deal(1));
        gone(check, "clear and lay", table -> {
            table.clear();
            table.lay(0, 0);
            table.lay(0, 1);
        });
    }

    private static void kept(Check check, String what, Answer.Call call, PatienceTable table) {
        Answer.of(call);
        check.equal("after " + what, table.hint(), 1);
        check.equal("positions() after " + what, table.positions(), 6);
    }

    private static void hintKept(Check check) {
        PatienceTable table = buried();
        table.look(200);
        kept(check, "hint itself", table::hint, table);
        kept(check, "sendHome of none", table::sendHome, table);
        kept(check, "move refused", () -> table.move(0, HOME, 1), table);
        kept(check, "move of no card", () -> table.move(0, 1, 0), table);
        kept(check, "play refused", () -> table.play('1', 'h'), table);
        kept(check, "play of no place", () -> table.play('1', 'b'), table);
        kept(check, "undo refused", table::undo, table);
        kept(check, "lay refused", () -> table.lay(0, 1), table);
        kept(check, "lay of no card", () -> table.lay(0, 2), table);
        kept(check, "rules refused", () -> table.rules(2, 1, 0, 3) ? 1 : 0, table);
        kept(check, "cards refused", () -> table.cards(1, 14) ? 1 : 0, table);
        kept(check, "look(0)", () -> table.look(0), table);
        kept(check, "look(201)", () -> table.look(201), table);
        kept(check, "size", () -> table.size(0), table);
        kept(check, "card", () -> table.card(0, 0), table);
        kept(check, "most", () -> table.most(0, 1), table);
        kept(check, "log", table::log, table);
        check.refusesArgument("deal(32001)", () -> table.deal(32001));
        check.equal("after deal refused", table.hint(), 1);
    }

    private static int hintOf(PatienceTable table) {
        table.look(200);
        return table.hint();
    }

    private static void hintLeast(Check check) {
        check.equal("column 1 rather than the cell", hintOf(buried()), 1);
        check.equal("home, though lesser moves can be made",
                hintOf(Tables.told(Tables.of(4, 1, 0, 0, 1, 1), "/0")), 16 + HOME);
        check.equal("the least of three columns alike", hintOf(Tables.told(Tables.of(4, 0, 1, 0, 1, 2), "/0 1")), 16);
        check.equal("the least of three cells alike",
                hintOf(Tables.told(Tables.of(2, 3, 1, 2, 1, 3), "1/0 2")), 16 + 8);
        PatienceTable used = Tables.told(Tables.of(2, 3, 1, 2, 1, 4), "1 3/0 2");
        used.move(0, 8, 1);
        check.equal("the next one when the least is in use", hintOf(used), 16 + 9);
        check.equal("the least of two that may go home",
                hintOf(Tables.told(Tables.of(3, 0, 0, 2, 2, 1), "/1/0")), 16 + HOME);
        check.equal("the first column of two", hintOf(Tables.told(Tables.of(2, 2, 0, 2, 2, 1), "1/0")), HOME);
    }

    private static void hintEdges(Check check) {
        for (int cell = 8; cell <= 11; cell++) {
            PatienceTable table = Tables.told(Tables.of(2, 4, 0, 0, 1, 1), "0");
            table.move(0, cell, 1);
            check.equal("from cell " + cell, hintOf(table), 16 * cell + HOME);
        }
        for (int column = 0; column < 8; column++) {
            PatienceTable table = new PatienceTable();
            table.cards(1, 1);
            table.lay(column, 0);
            check.equal("from column " + column, hintOf(table), 16 * column + HOME);
        }
        PatienceTable toLast = Tables.told(Tables.of(8, 0, 0, 0, 1, 8), "2/3/4/5/6/7/0 1");
        check.equal("from column 6 to column 7", hintOf(toLast), 16 * 6 + 7);
    }

    /** Each hint is a move that brings the end one nearer, and no lesser move does. */
    private static void hintLeads(Check check) {
        int followed = 0;
        for (int number = 0; number < 60; number++) {
            int deal = number;
            Supplier<PatienceTable> made = () -> {
                PatienceTable table = Tables.of(2 + deal % 4, deal % 3, deal / 3 % 3, deal / 9 % 3, 1 + deal % 2, 3);
                table.deal(deal);
                return table;
            };
            PatienceTable table = made.get();
            int distance = table.look(200);
            if (distance > 0) {
                compareHint(check, made, distance, table.hint());
                follow(check, table, distance);
                followed++;
            }
        }
        check.that("ways followed: " + followed, followed > 20);
    }

    private static void compareHint(Check check, Supplier<PatienceTable> made, int distance, int hint) {
        for (int move = 0; move <= hint; move++) {
            int told = move;
            PatienceTable table = made.get();
            int answer = Answer.of(() -> table.move(told / 16, told % 16, 1));
            boolean nearer = answer >= 0 && table.look(200) == distance - 1;
            check.that("hint " + hint + ", move " + move, nearer == (move == hint));
        }
    }

    private static void follow(Check check, PatienceTable table, int distance) {
        for (int left = distance; left > 0; left--) {
            check.equal("on the way", table.look(200), left);
            table.move(table.hint() / 16, table.hint() % 16, 1);
        }
        check.equal("at the end", table.look(1), 0);
    }

    private static void positionsKept(Check check) {
        PatienceTable table = buried();
        table.look(200);
        check.equal("three levels", table.positions(), 6);
        table.look(5);
        check.equal("two levels", table.positions(), 3);
        table.look(2);
        check.equal("one level", table.positions(), 1);
        table.look(6);
        check.equal("three again", table.positions(), 6);
        check.refusesArgument("look(0)", () -> table.look(0));
        check.equal("after one refused", table.positions(), 6);
        table.move(0, 8, 1);
        check.equal("after a move", table.positions(), 6);
        table.undo();
        check.equal("after undo", table.positions(), 6);
        table.clear();
        check.equal("after clear", table.positions(), 6);
        check.refusesState("nothing laid", () -> table.look(200));
        check.equal("after one refused again", table.positions(), 6);
        table.deal(1);
        check.equal("after deal", table.positions(), 6);
        table.rules(2, 1, 0, 0);
        table.cards(1, 2);
        check.equal("after rules and cards", table.positions(), 6);
    }

    private static void positionsNone(Check check) {
        PatienceTable table = buried();
        check.equal("before", table.positions(), 0);
        check.refusesArgument("look(201)", () -> table.look(201));
        check.equal("after one refused", table.positions(), 0);
        table.look(1);
        check.equal("the first level at least", table.positions(), 1);
        table.move(0, 8, 1);
        table.sendHome();
        check.equal("the end", table.look(200), 0);
        check.equal("no level before", table.positions(), 0);
        table.undo();
        check.equal("one move", table.look(1), 1);
        check.equal("one level", table.positions(), 1);
    }
}
