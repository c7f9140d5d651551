import java.util.Set;
import java.util.TreeSet;
import java.util.function.Supplier;

/** Both sides of each boundary that the document names for moves of one card and of rows. */
public final class BoundsOfMovesTest {
    private static final int HOME = 12;
    private static final String TOLD = "12345678abcdh";

    private BoundsOfMovesTest() {
    }

    public static void main(String[] args) {
        Check check = new Check("bounds of moves");
        rankOneLess(check.about("'FITS ON another one, if its rank is one less'"));
        builds(check.about("'BUILD is 0 and they are of two colours, or 1 and they are of one suit, or 2'"));
        fills(check.about("'FITS IN an empty column if FILL is 0, or 1 and its rank is the greatest one'"));
        notAllLaid(check.about("'As long as some are not, cards can be laid, and nothing else can be played'"));
        singleMoves(check.about("'A SINGLE MOVE brings'"));
        cells(check.about("'to an empty cell (but not from a cell)', 'in a cell (one at most)'"));
        home(check.about("'home, if its rank is one more than that of its suit's top there (1, if there is none)'"));
        rows(check.about("'The greatest ROW of a column'"));
        wholeColumn(check.about("'the m uppermost cards of a column'"));
        everyColumn(check.about("'PLACES are the COLUMNS 0 .. columns - 1', what stays and what goes"));
        rowsElsewhere(check.about("'cards of a column .. to another column'"));
        rowsUponCards(check.about("'m is at most (c + 1) * 2^e if FILL is 0, otherwise c + 1'"));
        rowsIntoEmpty(check.about("'e how many columns are, but for that where they go'"));
        greatestIntoEmpty(check.about("'in which .. the lowest of them fits', FILL 1 and 2"));
        moveArguments(check.about("promise 7, 'no such place, from is home, or m is below 1'"));
        moveAnswers(check.about("promise 7, 'How many cards are at home then'"));
        playCharacters(check.about("promise 8, 'when a character tells no place, or from is home'"));
        playPlaces(check.about("promise 8, 'columns are 1 .. 8, cells a .. d, home is h'"));
        playRows(check.about("promise 8, 'between columns as many cards as can be'"));
        most(check.about("promise 14, 'The greatest number of cards that may be moved'"));
        mostIsNone(check.about("promise 14, '0 when there is none, there is no such column, they are the same'"));
        check.end();
    }

    private static void allowed(Check check, String what, Supplier<PatienceTable> made, int[] move, boolean due) {
        int answer = Answer.of(() -> made.get().move(move[0], move[1], move[2]));
        String told = what + ": move(" + move[0] + ", " + move[1] + ", " + move[2] + ")";
        check.that(told + " answered " + answer, due ? answer >= 0 : answer == Answer.STATE);
    }

    private static void rankOneLess(Check check) {
        // Two suits and four ranks, each card in a column of its own.
        Supplier<PatienceTable> made = () -> Tables.told(Tables.of(8, 0, 2, 2, 2, 4), "0/1/2/3/4/5/6/7");
        for (int card = 0; card < 8; card++) {
            for (int other = 0; other < 8; other++) {
                boolean due = card / 2 + 1 == other / 2;
                allowed(check, card + " upon " + other, made, new int[] {card, other, 1}, due);
                check.equal("most(" + card + ", " + other + ")", made.get().most(card, other), due ? 1 : 0);
            }
        }
    }

    private static void builds(Check check) {
        // Which suits' 1 lies upon which suits' 2.
        String[][] due = {
            {"0110", "1001", "1001", "0110"},
            {"1000", "0100", "0010", "0001"},
            {"1111", "1111", "1111", "1111"}};
        for (int build = 0; build <= 2; build++) {
            int rule = build;
            Supplier<PatienceTable> made = () -> Tables.told(Tables.of(8, 0, rule, 2, 4, 2), "0/1/2/3/4/5/6/7");
            for (int suit = 0; suit < 4; suit++) {
                for (int other = 0; other < 4; other++) {
                    String what = "BUILD " + build + ", suit " + suit + " upon suit " + other;
                    allowed(check, what, made, new int[] {suit, 4 + other, 1}, due[build][suit].charAt(other) == '1');
                    allowed(check, what + " turned", made, new int[] {4 + other, suit, 1}, false);
                    allowed(check, what + " of one rank", made, new int[] {suit, other, 1}, false);
                }
            }
        }
    }

    private static void fills(Check check) {
        for (int fill = 0; fill <= 2; fill++) {
            for (int ranks = 1; ranks <= 7; ranks++) {
                for (int rank = 1; rank <= ranks; rank++) {
                    boolean due = fill == 0 || fill == 1 && rank == ranks;
                    intoEmpty(check, fill, ranks, rank, due);
                }
            }
        }
        Supplier<PatienceTable> all = () -> Tables.told(Tables.of(3, 0, 1, 1, 1, 13),
                Tables.suit(1, 0, 1, 11) + "12/11");
        allowed(check, "rank 13 of 13", all, new int[] {0, 2, 1}, true);
        allowed(check, "rank 12 of 13", all, new int[] {1, 2, 1}, false);
    }

    /** Each rank has a column of its own, and the last column is empty. */
    private static void intoEmpty(Check check, int fill, int ranks, int rank, boolean due) {
        Supplier<PatienceTable> made = () -> {
            PatienceTable table = Tables.of(ranks + 1, 1, 1, fill, 1, ranks);
            for (int card = 0; card < ranks; card++) {
                table.lay(card, card);
            }
            return table;
        };
        String what = "FILL " + fill + ", rank " + rank + " of " + ranks;
        allowed(check, what, made, new int[] {rank - 1, ranks, 1}, due);
        check.equal(what + ", most", made.get().most(rank - 1, ranks), due ? 1 : 0);
        Supplier<PatienceTable> inCell = () -> {
            PatienceTable table = made.get();
            table.move(rank - 1, 8, 1);
            return table;
        };
        allowed(check, what + " from a cell", inCell, new int[] {8, ranks, 1}, due);
    }

    private static void notAllLaid(Check check) {
        PatienceTable table = Tables.of(2, 1, 1, 0, 1, 2);
        for (int left = 2; left > 0; left--) {
            String what = left + " not laid, ";
            check.refusesState(what + "move", () -> table.move(0, HOME, 1));
            check.refusesState(what + "move to a cell", () -> table.move(0, 8, 1));
            check.refusesState(what + "play", () -> table.play('1', 'h'));
            check.refusesState(what + "play of a row", () -> table.play('1', '2'));
            check.refusesState(what + "sendHome", table::sendHome);
            check.refusesState(what + "look", () -> table.look(1));
            check.equal(what + "undo", Answer.of(table::undo), Answer.ELEMENT);
            check.equal(what + "most", table.most(0, 1), 0);
            check.equal(what + "lay", table.lay(0, left - 1), 3 - left);
        }
        check.equal("all laid, most", table.most(0, 1), 2);
        check.equal("all laid, look", table.look(200), 2);
        check.equal("all laid, play", table.play('1', '2'), 2);
        check.equal("all laid, move", table.move(1, HOME, 1), 1);
        check.equal("all laid, sendHome", table.sendHome(), 1);
        check.equal("all laid, undo", table.undo(), 1);
    }

    /** Three columns in use, the fourth empty; three cells, the second one empty. */
    private static PatienceTable crowded(int build, int fill) {
        PatienceTable table = Tables.told(Tables.of(4, 3, build, fill, 4, 3), "1 2 8 0 / 3 6 5 9 / 7 10 11 4");
        table.move(0, 8, 1);
        table.move(1, 10, 1);
        return table;
    }

    private static void singleMoves(Check check) {
        String always = "0>9 1>9 2>9 8>12 ";
        String[] upon = {"1>0 8>1 ", "2>0 8>2 ", "1>0 2>0 8>1 8>2 "};
        String[] into = {"0>3 1>3 2>3 8>3 10>3", "0>3 10>3", ""};
        for (int build = 0; build <= 2; build++) {
            for (int fill = 0; fill <= 2; fill++) {
                int rule = build;
                int filled = fill;
                Set<String> due = Set.of((always + upon[build] + into[fill]).trim().split(" "));
                String what = "BUILD " + build + ", FILL " + fill;
                for (int from : new int[] {0, 1, 2, 3, 8, 9, 10}) {
                    for (int to : new int[] {0, 1, 2, 3, 8, 9, 10, 12}) {
                        allowed(check, what, () -> crowded(rule, filled), new int[] {from, to, 1},
                                due.contains(from + ">" + to));
                    }
                }
            }
        }
    }

    private static void cells(Check check) {
        PatienceTable table = Tables.told(Tables.of(2, 4, 0, 2, 4, 2), "4 5 6 7 3 2 1 0");
        for (int cell = 8; cell <= 11; cell++) {
            int used = cell;
            check.equal("an empty cell", table.move(0, cell, 1), 0);
            check.refusesState("a cell in use", () -> table.move(0, used, 1));
            check.refusesState("from a cell to itself", () -> table.move(used, used, 1));
            if (cell < 11) {
                check.refusesState("from a cell to an empty one", () -> table.move(used, used + 1, 1));
            }
        }
        check.refusesState("play from a cell to a cell", () -> table.play('a', 'b'));
        check.equal("out of a cell", table.move(9, HOME, 1), 1);
        check.refusesState("from a cell to one left empty", () -> table.move(8, 9, 1));
        check.refusesState("out of an empty cell", () -> table.move(9, HOME, 1));
        check.equal("into a cell left empty", table.move(0, 9, 1), 1);
        check.equal("the card there", table.card(9, 0), 7);
    }

    private static void home(Check check) {
        // Ranks 1 to 4 of two suits; each suit's cards lie in cells or open in a column.
        PatienceTable table = Tables.told(Tables.of(8, 4, 1, 0, 2, 4), "0/2/4/6/1/3/5/7");
        for (int rank = 1; rank <= 4; rank++) {
            for (int other = 1; other <= 4; other++) {
                int column = other - 1;
                if (other > rank) {
                    check.refusesState("rank " + other + " upon rank " + (rank - 1), () -> table.move(column, HOME, 1));
                }
            }
            check.equal("rank " + rank + " upon rank " + (rank - 1), table.move(rank - 1, HOME, 1), rank);
            check.equal("the top", table.card(HOME, 0), 2 * (rank - 1));
            check.equal("the other suit's top", table.card(HOME, 1), PatienceTable.NONE);
            check.refusesState("the other suit's 2", () -> table.move(5, HOME, 1));
        }
        table.move(5, 8, 1);
        check.refusesState("rank 2 from a cell", () -> table.move(8, HOME, 1));
        check.equal("the other suit's 1", table.move(4, HOME, 1), 5);
        check.equal("rank 2 from a cell then", table.move(8, HOME, 1), 6);
    }

    /** The uppermost cards of the first column, in one row; all others lie in the second. */
    private static Supplier<PatienceTable> above(int build, int suits, String row) {
        return () -> {
            PatienceTable table = Tables.of(8, 4, build, 0, suits, 6);
            Tables.told(table, row);
            for (int card = 0; card < suits * 6; card++) {
                int laid = card;
                Answer.of(() -> table.lay(1, laid));
            }
            return table;
        };
    }

    private static void rowLength(Check check, String what, Supplier<PatienceTable> made, int due) {
        for (int m = 1; m <= 6; m++) {
            allowed(check, what, made, new int[] {0, 7, m}, m <= due);
        }
        check.equal(what + ", most", made.get().most(0, 7), due);
    }

    private static void rows(Check check) {
        rowLength(check, "BUILD 1, one suit", above(1, 2, "10 8 6 4 2 0"), 6);
        rowLength(check, "BUILD 1, the last but one is of another", above(1, 2, "10 8 6 4 3 0"), 1);
        rowLength(check, "BUILD 1, the third is of another", above(1, 2, "10 8 6 5 2 0"), 2);
        rowLength(check, "BUILD 1, the lowest is of another", above(1, 2, "11 8 6 4 2 0"), 5);
        rowLength(check, "BUILD 0, two ranks alike on a row", above(0, 4, "20 17 12 9 7 1 0"), 1);
        rowLength(check, "BUILD 0, black and red in turn", above(0, 4, "23 18 15 9 4 1"), 6);
        rowLength(check, "BUILD 0, two suits of one colour", above(0, 4, "23 18 13 11 5 0"), 4);
        rowLength(check, "BUILD 0, one suit", above(0, 4, "21 17 13 9 5 1"), 1);
        rowLength(check, "BUILD 2, any suit", above(2, 4, "23 19 12 9 6 2"), 6);
        rowLength(check, "BUILD 2, a rank left out", above(2, 4, "23 15 10 6 2"), 4);
        rowLength(check, "BUILD 2, a rank twice", above(2, 4, "14 12 10 6 2"), 4);
        rowLength(check, "BUILD 2, rising ranks", above(2, 4, "2 6 10 14"), 1);
        rowLength(check, "BUILD 2, falling upon rising ones", above(2, 4, "2 6 10 7 3"), 3);
    }

    private static void wholeColumn(Check check) {
        for (int height = 1; height <= 6; height++) {
            int cards = height;
            Supplier<PatienceTable> made = above(1, 2, Tables.suit(2, 0, height, 1));
            allowed(check, height + " cards, all", made, new int[] {0, 7, cards}, true);
            allowed(check, height + " cards, one more", made, new int[] {0, 7, cards + 1}, false);
            allowed(check, height + " cards, 52", made, new int[] {0, 7, 52}, false);
            allowed(check, height + " cards, far more", made, new int[] {0, 7, Integer.MAX_VALUE}, false);
            PatienceTable table = made.get();
            table.move(0, 7, height);
            check.equal("none is left", table.size(0), 0);
            for (int k = 0; k < height; k++) {
                check.equal("as they lay, " + k, table.card(7, k), 2 * (height - 1 - k));
            }
        }
        allowed(check, "two of none", above(1, 2, "0"), new int[] {5, 7, 2}, false);
        allowed(check, "one of none", above(1, 2, "0"), new int[] {5, 7, 1}, false);
    }

    /** One, two or three of three cards from each column to each other one, and back. */
    private static void everyColumn(Check check) {
        for (int from = 0; from < 8; from++) {
            for (int to = 0; to < 8; to++) {
                for (int m = 1; m <= 3 && from != to; m++) {
                    PatienceTable table = Tables.of(8, 4, 1, 0, 1, 3);
                    for (int card = 2; card >= 0; card--) {
                        table.lay(from, card);
                    }
                    String what = m + " from " + from + " to " + to;
                    table.move(from, to, m);
                    check.equal(what + ", left", table.size(from), 3 - m);
                    check.equal(what + ", gone", table.size(to), m);
                    check.equal(what + ", the top left", table.card(from, 2 - m), m < 3 ? m : PatienceTable.NONE);
                    check.equal(what + ", the lowest gone", table.card(to, 0), m - 1);
                    check.equal(what + ", the top gone", table.card(to, m - 1), 0);
                    check.equal(what + ", to a cell", table.move(to, 11, 1), 0);
                    check.equal(what + ", left of those gone", table.size(to), m - 1);
                    check.equal(what + ", the cell", table.card(11, 0), 0);
                    table.undo();
                    check.equal(what + ", taken back", table.undo(), m);
                    check.equal(what + ", all back", table.size(from), 3);
                    check.equal(what + ", the lowest back", table.card(from, 0), 2);
                    check.equal(what + ", the top back", table.card(from, 2), 0);
                }
            }
        }
    }

    private static void rowsElsewhere(Check check) {
        Supplier<PatienceTable> made = above(1, 2, "4 2 0");
        for (int to : new int[] {0, 8, 11, 12}) {
            allowed(check, "two from a column", made, new int[] {0, to, 2}, false);
        }
        Supplier<PatienceTable> celled = () -> {
            PatienceTable table = made.get();
            table.move(0, 8, 1);
            return table;
        };
        for (int to : new int[] {0, 7, 8, 9, 12}) {
            allowed(check, "two from a cell", celled, new int[] {8, to, 2}, false);
        }
    }

    /** So many of the cells in use, the others empty; the column that the cards come from lies third. */
    private static PatienceTable withCellsUsed(PatienceTable table, int used) {
        for (int cell = 8; cell < 8 + used; cell++) {
            table.move(2, cell, 1);
        }
        return table;
    }

    private static void rowsUponCards(Check check) {
        for (int columns = 3; columns <= 8; columns++) {
            for (int cells = 0; cells <= 4; cells++) {
                for (int used = 0; used <= cells; used++) {
                    for (int fill = 0; fill <= 2; fill++) {
                        int c = cells - used;
                        int e = columns - 3;
                        int bound = fill == 0 ? (c + 1) * (int) Math.pow(2, e) : c + 1;
                        uponCard(check, new int[] {columns, cells, used, fill}, bound);
                    }
                }
            }
        }
    }

    /** A row of each length, and the card on which its lowest fits in the next column. */
    private static void uponCard(Check check, int[] game, int bound) {
        for (int row = 2; row <= 12; row++) {
            int length = row;
            Supplier<PatienceTable> made = () -> withCellsUsed(Tables.told(
                    Tables.of(game[0], game[1], 1, game[3], 2, 13), Tables.suit(2, 0, length, 1) + "/"
                    + Tables.suit(2, 0, 13, length + 1) + "/" + Tables.suit(2, 1, 1, 13)), game[2]);
            String what = game[0] + " columns, " + game[1] + " cells, " + game[2] + " in use, FILL " + game[3];
            allowed(check, what, made, new int[] {0, 1, row}, row <= bound);
            allowed(check, what, made, new int[] {0, 1, row - 1}, false);
            check.equal(what + ", most", made.get().most(0, 1), row <= bound ? row : 0);
        }
    }

    private static void rowsIntoEmpty(Check check) {
        for (int columns = 4; columns <= 8; columns++) {
            for (int cells = 0; cells <= 4; cells++) {
                for (int used = 0; used <= cells; used++) {
                    // Of the empty columns one is where they go, and the second one holds the greatest card.
                    int bound = Math.min(12, (cells - used + 1) * (int) Math.pow(2, columns - 4));
                    int[] game = {columns, cells, used};
                    Supplier<PatienceTable> made = () -> withCellsUsed(Tables.told(
                            Tables.of(game[0], game[1], 1, 0, 2, 13), Tables.suit(2, 0, 12, 1) + "/24/"
                            + Tables.suit(2, 1, 1, 13)), game[2]);
                    String what = columns + " columns, " + cells + " cells, " + used + " in use";
                    allowed(check, what, made, new int[] {0, columns - 1, bound}, true);
                    allowed(check, what, made, new int[] {0, columns - 1, bound + 1}, false);
                    check.equal(what + ", most", made.get().most(0, columns - 1), bound);
                    PatienceTable played = made.get();
                    check.equal(what + ", play", played.play('1', TOLD.charAt(columns - 1)), bound);
                    check.equal(what + ", they went", played.size(columns - 1), bound);
                }
            }
        }
    }

    private static void greatestIntoEmpty(Check check) {
        for (int ranks = 2; ranks <= 6; ranks++) {
            for (int cells = 0; cells <= 4; cells++) {
                int[] game = {ranks, cells};
                String what = "a row of " + ranks + ", " + cells + " cells";
                Supplier<PatienceTable> greatest = () -> Tables.told(Tables.of(8, game[1], 1, 1, 1, game[0]),
                        Tables.suit(1, 0, game[0], 1));
                allowed(check, what + ", all", greatest, new int[] {0, 7, ranks}, ranks <= cells + 1);
                allowed(check, what + ", one less", greatest, new int[] {0, 7, ranks - 1}, false);
                int due = ranks <= cells + 1 ? ranks : 0;
                check.equal(what + ", most", greatest.get().most(0, 7), due);
                check.equal(what + ", play", Answer.of(() -> greatest.get().play('1', '8')),
                        due > 0 ? due : Answer.STATE);
                Supplier<PatienceTable> never = () -> Tables.told(Tables.of(8, game[1], 1, 2, 1, game[0]),
                        Tables.suit(1, 0, game[0], 1));
                allowed(check, what + ", FILL 2, all", never, new int[] {0, 7, ranks}, false);
                check.equal(what + ", FILL 2, most", never.get().most(0, 7), 0);
            }
        }
    }

    private static void moveArguments(Check check) {
        for (int[] game : new int[][] {{8, 4}, {2, 0}, {5, 2}}) {
            for (int from = -2; from <= 14; from++) {
                PatienceTable bare = Tables.of(game[0], game[1], 0, 0, 2, 2);
                for (int to = -2; to <= 14; to++) {
                    int source = from;
                    int target = to;
                    boolean there = isPlace(game, from) && isPlace(game, to) && from != HOME;
                    check.equal(game[0] + " columns, " + game[1] + " cells, move(" + from + ", " + to + ", 1)",
                            Answer.of(() -> bare.move(source, target, 1)), there ? Answer.STATE : Answer.ARGUMENT);
                }
            }
        }
        PatienceTable table = Tables.told(Tables.of(2, 1, 0, 0, 1, 2), "0 1");
        for (int m : new int[] {0, -1, Integer.MIN_VALUE}) {
            check.refusesArgument("m = " + m, () -> table.move(0, 1, m));
            check.refusesArgument("not allowed, m = " + m, () -> table.move(0, HOME, m));
        }
        for (int place : new int[] {Integer.MIN_VALUE, Integer.MAX_VALUE}) {
            check.refusesArgument("from " + place, () -> table.move(place, 1, 1));
            check.refusesArgument("to " + place, () -> table.move(0, place, 1));
        }
        check.equal("m = 1", table.move(0, 1, 1), 0);
    }

    private static boolean isPlace(int[] game, int place) {
        return place >= 0 && place < game[0] || place >= 8 && place <= 7 + game[1] || place == HOME;
    }

    private static void moveAnswers(Check check) {
        PatienceTable table = Tables.told(Tables.of(2, 1, 0, 2, 4, 13), Tables.suit(1, 0, 52, 1));
        for (int card = 0; card < 52; card++) {
            check.equal("card " + card + " to a cell", table.move(0, 8, 1), card);
            check.equal("card " + card + " home", table.move(8, HOME, 1), card + 1);
        }
        check.refusesState("no card is left", () -> table.move(0, HOME, 1));
    }

    private static void playCharacters(Check check) {
        for (int[] game : new int[][] {{8, 4}, {2, 0}, {5, 2}}) {
            PatienceTable bare = Tables.of(game[0], game[1], 0, 0, 2, 2);
            for (int told = 0; told <= 65535; told++) {
                if (told % 200 == 0) {
                    bare = Tables.of(game[0], game[1], 0, 0, 2, 2);
                }
                PatienceTable table = bare;
                char character = (char) told;
                int place = TOLD.indexOf(character);
                boolean there = place >= 0 && isPlace(game, place);
                String what = game[0] + " columns, " + game[1] + " cells, character " + told;
                check.equal(what + " from", Answer.of(() -> table.play(character, '1')),
                        there && place != HOME ? Answer.STATE : Answer.ARGUMENT);
                check.equal(what + " to", Answer.of(() -> table.play('2', character)),
                        there ? Answer.STATE : Answer.ARGUMENT);
            }
        }
    }

    private static void playPlaces(Check check) {
        for (int column = 0; column < 8; column++) {
            for (int cell = 8; cell < 12; cell++) {
                PatienceTable table = new PatienceTable();
                table.deal(1);
                int top = table.card(column, table.size(column) - 1);
                String what = "from " + TOLD.charAt(column) + " to " + TOLD.charAt(cell);
                check.equal(what, table.play(TOLD.charAt(column), TOLD.charAt(cell)), 1);
                check.equal(what + ", the cell", table.card(cell, 0), top);
            }
        }
        for (int column = 0; column < 8; column++) {
            PatienceTable table = Tables.of(8, 4, 0, 0, 1, 1);
            table.lay(column, 0);
            int other = (column + 3) % 8;
            check.equal("to another column", table.play(TOLD.charAt(column), TOLD.charAt(other)), 1);
            check.equal("there it is", table.size(other), 1);
            check.equal("to d", table.play(TOLD.charAt(other), 'd'), 1);
            check.equal("back", table.play('d', TOLD.charAt(column)), 1);
            check.equal("home", table.play(TOLD.charAt(column), 'h'), 1);
            check.equal("at home", table.size(HOME), 1);
            check.refusesState("no card is left", () -> table.play('d', 'h'));
        }
    }

    private static void playRows(Check check) {
        PatienceTable table = Tables.told(Tables.of(3, 1, 1, 0, 1, 5), "3 2 1 0 / 4");
        check.equal("upon a card, the whole row", table.play('1', '2'), 4);
        check.equal("into an empty column, two cells' worth and an empty column", table.play('2', '3'), 4);
        check.equal("back upon it", table.play('3', '2'), 4);
        check.equal("to a cell, one", table.play('2', 'a'), 1);
        check.refusesState("to a cell in use", () -> table.play('2', 'a'));
        check.equal("with no cell, one empty column", table.play('2', '1'), 2);
        check.refusesState("upon one that it does not fit on", () -> table.play('2', '1'));
        check.refusesState("to itself", () -> table.play('1', '1'));
        check.equal("home, one", table.play('a', 'h'), 1);
        check.equal("home, one of a row", table.play('1', 'h'), 1);
        check.refusesState("from an empty cell", () -> table.play('a', '3'));
        check.refusesState("from an empty column", () -> table.play('3', '1'));
    }

    /** What move takes and what most tells, for all columns of a few tables with rows of all kinds. */
    private static void most(Check check) {
        for (int number = 0; number < 12; number++) {
            int build = number % 3;
            int fill = number / 3 % 3;
            int deal = number;
            Supplier<PatienceTable> made = () -> {
                PatienceTable table = Tables.of(6, 2, build, fill, 2, 6);
                table.deal(deal);
                for (int step = 0; step < 30; step++) {
                    int from = (7 * step + deal) % 6;
                    int to = (5 * step + 1) % 10;
                    Answer.of(() -> table.play(TOLD.charAt(from), TOLD.charAt(to)));
                }
                return table;
            };
            for (int from = 0; from < 6; from++) {
                for (int to = 0; to < 6; to++) {
                    check.equal("deal " + deal + ", most(" + from + ", " + to + ")",
                            made.get().most(from, to), greatestTaken(made, from, to));
                }
            }
        }
    }

    private static int greatestTaken(Supplier<PatienceTable> made, int from, int to) {
        Set<Integer> taken = new TreeSet<>();
        taken.add(0);
        for (int m = 1; m <= 13; m++) {
            int amount = m;
            if (Answer.of(() -> made.get().move(from, to, amount)) >= 0) {
                taken.add(m);
            }
        }
        return java.util.Collections.max(taken);
    }

    private static void mostIsNone(Check check) {
        PatienceTable table = Tables.told(Tables.of(3, 1, 1, 0, 1, 3), "1 0 / 2");
        check.equal("two", table.most(0, 1), 2);
        check.equal("from an empty column", table.most(2, 0), 0);
        check.equal("an empty column to itself", table.most(2, 2), 0);
        check.equal("a column to itself", table.most(0, 0), 0);
        check.equal("what does not fit", table.most(1, 0), 0);
        for (int place : new int[] {Integer.MIN_VALUE, -1, 3, 7, 8, 12, 13, Integer.MAX_VALUE}) {
            check.equal("most(" + place + ", 1)", table.most(place, 1), 0);
            check.equal("most(0, " + place + ")", table.most(0, place), 0);
        }
        table.move(0, 8, 1);
        check.equal("from a cell", table.most(8, 2), 0);
        table.clear();
        Tables.told(table, "1 0");
        check.equal("one card not laid", table.most(0, 2), 0);
        table.lay(1, 2);
        check.equal("all laid", table.most(0, 2), 2);
    }
}
