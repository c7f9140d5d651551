import java.util.ArrayList;
import java.util.List;

/** Both sides of each boundary that the document names for safe cards, sending home, the log and taking back. */
public final class BoundsOfHomeAndLogTest {
    private static final int HOME = 12;

    private BoundsOfHomeAndLogTest() {
    }

    public static void main(String[] args) {
        Check check = new Check("bounds of home and log");
        mayGoHome(check.about("'A card that may go home is SAFE'"));
        lowRanks(check.about("'its rank is 1 or 2'"));
        otherSuits(check.about("'all cards of the other colour whose rank is one less', 'all cards whose rank'"));
        fewSuits(check.about("'all cards of the other colour' when there are few suits"));
        oneRankLess(check.about("'whose rank is one less are at home'"));
        sendHomeOrder(check.about("promise 9, 'a card in a cell (the least cell first), or, if there is none, a top'"));
        sendHomeAnswers(check.about("promise 9, 'How many did', 'each with a move of its own'"));
        sendHomeBare(check.about("promise 9, 'when not all cards are laid'"));
        undoAnswers(check.about("promise 10, 'how many cards it moved'"));
        undoEmpty(check.about("promise 10, 'when the log is empty'"));
        undoEach(check.about("promise 10, 'Takes the latest move in the log back'"));
        logBound(check.about("'THE LOG has all moves .. of more than 60 the latest 60'"));
        logRoundAndRound(check.about("'the latest 60', many times over"));
        logOfRefused(check.about("promise 11, moves that were not played"));
        logEmptied(check.about("promises 2 to 5, 'the log is empty', when it is full"));
        check.end();
    }

    private static void mayGoHome(Check check) {
        for (int build = 0; build <= 2; build++) {
            PatienceTable buried = Tables.told(Tables.of(2, 0, build, 0, 1, 2), "0 1");
            check.equal("BUILD " + build + ", rank 2 with no 1 at home", buried.sendHome(), 0);
            PatienceTable open = Tables.told(Tables.of(2, 0, build, 0, 1, 2), "1 0");
            check.equal("BUILD " + build + ", rank 2 with its 1 at home", open.sendHome(), 2);
            PatienceTable gap = Tables.told(Tables.of(2, 0, build, 0, 1, 3), "1 2 0");
            check.equal("BUILD " + build + ", rank 3 with its 1 at home", gap.sendHome(), 1);
        }
    }

    private static void lowRanks(Check check) {
        // Suit 0 lies open; the others' 1 lie beneath, so that none of them is at home.
        int[] due = {2, 4, 2};
        for (int build = 0; build <= 2; build++) {
            PatienceTable table = Tables.told(Tables.of(4, 0, build, 0, 4, 4),
                    "12 8 4 0 / 1 5 9 13 / 2 6 10 14 / 3 7 11 15");
            check.equal("BUILD " + build + ", ranks 1 and 2 go, rank 3 when no other is at home",
                    table.sendHome(), due[build]);
        }
    }

    private static boolean isBlack(int suit) {
        return suit == 0 || suit == 3;
    }

    /** For each suit's 3: of the other suits each one has its 2 at home or not. */
    private static void otherSuits(Check check) {
        for (int build = 0; build <= 2; build++) {
            for (int suit = 0; suit < 4; suit++) {
                for (int held = 0; held < 16; held++) {
                    if ((held >> suit & 1) == 0 && held != 0) {
                        compareHeld(check, build, suit, held);
                    }
                }
            }
        }
    }

    /** Held suits lie with their 1 beneath the 2 and 3; the 3 of the free ones lie beneath a held suit. */
    private static void compareHeld(Check check, int build, int suit, int held) {
        StringBuilder free = new StringBuilder();
        StringBuilder beneath = new StringBuilder();
        StringBuilder stuck = new StringBuilder();
        boolean safe = true;
        int due = 2;
        for (int other = 0; other < 4; other++) {
            if ((held >> other & 1) != 0) {
                stuck.append(Tables.suit(4, other, 1, 3));
                safe &= build == 1 || build == 0 && isBlack(other) == isBlack(suit);
            } else if (other != suit) {
                free.append("/").append(Tables.suit(4, other, 2, 1));
                beneath.append(Tables.suit(4, other, 3, 3));
                due += 2;
            }
        }
        PatienceTable table = Tables.told(Tables.of(8, 0, build, 0, 4, 3),
                Tables.suit(4, suit, 3, 1) + free + "/" + beneath + stuck);
        String what = "BUILD " + build + ", the 3 of suit " + suit + ", held suits " + Integer.toBinaryString(held);
        check.equal(what, table.sendHome(), due + (safe ? 1 : 0));
        check.equal(what + ", its column", table.size(0), safe ? 0 : 1);
    }

    private static void fewSuits(Check check) {
        PatienceTable one = Tables.told(Tables.of(2, 0, 0, 0, 1, 13), Tables.suit(1, 0, 13, 1));
        check.equal("one suit, no other colour", one.sendHome(), 13);
        PatienceTable red = Tables.told(Tables.of(3, 0, 0, 0, 3, 3), "0 3 6 / 8 5 2 / 7 4 1");
        check.equal("three suits, the only black one held: ranks 1 and 2 of two suits", red.sendHome(), 4);
        PatienceTable black = Tables.told(Tables.of(3, 0, 0, 0, 3, 3), "6 3 0 / 2 5 8 / 7 4 1");
        check.equal("three suits, one red one held: red's 3 goes, black's does not", black.sendHome(), 5);
        check.equal("black's 3", black.size(0), 1);
        PatienceTable any = Tables.told(Tables.of(3, 0, 2, 0, 3, 3), "6 3 0 / 2 5 8 / 7 4 1");
        check.equal("three suits, BUILD 2, one held: no 3 goes", any.sendHome(), 4);
    }

    /** Red is at home up to some rank; black goes on to the rank above that, and no further. */
    private static void oneRankLess(Check check) {
        for (int build = 0; build <= 2; build += 2) {
            for (int red = 1; red <= 11; red++) {
                PatienceTable table = Tables.told(Tables.of(4, 0, build, 0, 2, 13), Tables.suit(2, 0, 13, 1) + "/"
                        + Tables.suit(2, 1, red, 1) + "/" + Tables.suit(2, 1, red + 1, 13));
                table.sendHome();
                check.equal("BUILD " + build + ", red at home", table.card(HOME, 1), 2 * (red - 1) + 1);
                check.equal("BUILD " + build + ", black with red " + red, table.card(HOME, 0), 2 * red);
            }
        }
    }

    /** Takes all back, and tells the places that the cards came from, the first one first. */
    private static List<Integer> wayHome(PatienceTable table, int sent) {
        List<Integer> places = new ArrayList<>();
        for (int k = 0; k < sent; k++) {
            int[] before = sizes(table);
            table.undo();
            int[] after = sizes(table);
            for (int place = 0; place < HOME; place++) {
                if (after[place] > before[place]) {
                    places.add(0, place);
                }
            }
        }
        return places;
    }

    private static int[] sizes(PatienceTable table) {
        int[] sizes = new int[HOME];
        for (int place = 0; place < HOME; place++) {
            sizes[place] = table.size(place);
        }
        return sizes;
    }

    private static void sendHomeOrder(Check check) {
        PatienceTable all = Tables.told(Tables.of(4, 4, 0, 0, 4, 2), "0 5/1 6/2 7/3 4");
        for (int column = 0; column < 4; column++) {
            all.move(column, 11 - column, 1);
        }
        check.equal("all", all.sendHome(), 8);
        // Cells hold the 2 of suits 0, 3, 2, 1: each goes at once when its 1 has gone.
        check.that("cells before columns, the least first", wayHome(all, 8).equals(List.of(0, 8, 1, 11, 2, 10, 3, 9)));
        PatienceTable cells = Tables.told(Tables.of(2, 4, 0, 0, 4, 1), "0 1 2 3");
        for (int cell : new int[] {10, 8, 11, 9}) {
            cells.move(0, cell, 1);
        }
        cells.sendHome();
        check.that("cells from the least", wayHome(cells, 4).equals(List.of(8, 9, 10, 11)));
        PatienceTable columns = Tables.told(Tables.of(8, 0, 0, 0, 4, 1), "/3//2///1/0");
        columns.sendHome();
        check.that("columns from the least", wayHome(columns, 4).equals(List.of(1, 3, 6, 7)));
        PatienceTable again = Tables.told(Tables.of(3, 0, 1, 0, 2, 2), "2/3 1/0");
        again.sendHome();
        check.that("from the least again after each", wayHome(again, 4).equals(List.of(1, 1, 2, 0)));
        PatienceTable last = Tables.told(Tables.of(2, 4, 0, 0, 2, 1), "1 0");
        last.move(0, 11, 1);
        last.sendHome();
        check.that("the last cell before the first column", wayHome(last, 2).equals(List.of(11, 0)));
        PatienceTable unsafe = Tables.told(Tables.of(3, 1, 0, 0, 2, 3), "1 3 5 / 0 2 / 4");
        unsafe.move(1, 8, 1);
        check.equal("a cell whose card goes when it may", unsafe.sendHome(), 2);
        check.that("the column first, then the cell", wayHome(unsafe, 2).equals(List.of(1, 8)));
    }

    private static void sendHomeAnswers(Check check) {
        PatienceTable table = Tables.told(Tables.of(2, 1, 1, 0, 4, 13), Tables.suit(1, 0, 52, 1));
        check.equal("all 52", table.sendHome(), 52);
        check.equal("each a move", table.log(), 52);
        check.equal("none is left", table.sendHome(), 0);
        check.equal("none is no move", table.log(), 52);
        check.equal("one taken back", table.undo(), 1);
        check.equal("one to send", table.sendHome(), 1);
        check.equal("all at home", table.size(HOME), 52);
        PatienceTable stuck = Tables.told(Tables.of(2, 1, 1, 0, 1, 2), "0 1");
        check.equal("none at first", stuck.sendHome(), 0);
        check.equal("no move", stuck.log(), 0);
        stuck.move(0, 8, 1);
        check.equal("both", stuck.sendHome(), 2);
        check.equal("three moves", stuck.log(), 3);
    }

    private static void sendHomeBare(Check check) {
        PatienceTable table = Tables.of(2, 1, 1, 0, 1, 2);
        check.refusesState("no card laid", table::sendHome);
        table.lay(0, 1);
        check.refusesState("one card not laid", table::sendHome);
        table.lay(0, 0);
        check.equal("all laid", table.sendHome(), 2);
        table.clear();
        check.refusesState("no card laid again", table::sendHome);
    }

    private static void undoAnswers(Check check) {
        for (int m = 1; m <= 13; m++) {
            PatienceTable table = Tables.told(Tables.of(8, 4, 1, 0, 1, 13), Tables.suit(1, 0, 13, 1));
            List<Integer> before = Tables.seen(table);
            table.move(0, 7, m);
            check.equal("a row of " + m, table.undo(), m);
            check.that("a row of " + m + " is back", before.equals(Tables.seen(table)));
        }
        PatienceTable played = Tables.told(Tables.of(4, 4, 1, 0, 1, 13), Tables.suit(1, 0, 13, 1));
        int went = played.play('1', '2');
        check.equal("a row played", played.undo(), went);
    }

    private static void undoEmpty(Check check) {
        PatienceTable table = Tables.of(2, 2, 0, 0, 1, 1);
        check.equal("no card laid", Answer.of(table::undo), Answer.ELEMENT);
        table.lay(0, 0);
        check.equal("no move played", Answer.of(table::undo), Answer.ELEMENT);
        table.move(0, 1, 1);
        check.equal("one move", table.undo(), 1);
        check.equal("all taken back", Answer.of(table::undo), Answer.ELEMENT);
        check.equal("nothing has changed", table.size(0), 1);
        table.move(0, 8, 1);
        check.equal("one more move", table.undo(), 1);
        check.equal("taken back", Answer.of(table::undo), Answer.ELEMENT);
    }

    /** One move of each kind, each of them taken back alone. */
    private static void undoEach(Check check) {
        int[][] moves = {{0, 8, 1}, {8, 2, 1}, {2, 8, 1}, {8, 12, 1}, {0, 12, 1}, {0, 2, 2}, {2, 3, 1}, {3, 2, 1}};
        PatienceTable table = Tables.told(Tables.of(4, 1, 1, 0, 1, 5), "3 2 1 0 / 4");
        List<List<Integer>> seen = new ArrayList<>();
        for (int[] move : moves) {
            seen.add(columnsOf(table));
            check.that("move " + seen.size(), table.move(move[0], move[1], move[2]) >= 0);
        }
        for (int k = moves.length - 1; k >= 0; k--) {
            check.equal("move " + k + " back", table.undo(), moves[k][2]);
            check.that("as before move " + k, columnsOf(table).equals(seen.get(k)));
            check.equal("log() then", table.log(), k);
        }
    }

    /** Where the cards of a small table lie, in few calls. */
    private static List<Integer> columnsOf(PatienceTable table) {
        List<Integer> cards = new ArrayList<>();
        for (int column = 0; column < 4; column++) {
            int size = table.size(column);
            for (int k = 0; k < size; k++) {
                cards.add(table.card(column, k));
            }
            cards.add(-1);
        }
        cards.add(table.card(8, 0));
        cards.add(table.card(HOME, 0));
        return cards;
    }

    /** The only card, in the first of three columns. */
    private static PatienceTable wanderer() {
        return Tables.told(Tables.of(3, 0, 0, 0, 1, 1), "0");
    }

    /** Moves the card to the next of the three columns, so many times. */
    private static void wander(PatienceTable table, int first, int moves) {
        for (int k = first; k < first + moves; k++) {
            table.move(k % 3, (k + 1) % 3, 1);
        }
    }

    private static void logBound(Check check) {
        for (int moves = 57; moves <= 64; moves++) {
            PatienceTable table = wanderer();
            wander(table, 0, moves);
            int kept = Math.min(moves, 60);
            check.equal(moves + " moves", table.log(), kept);
            for (int left = kept - 1; left >= 0; left--) {
                check.equal(moves + " moves, one taken back", table.undo(), 1);
                check.equal(moves + " moves, log() then", table.log(), left);
            }
            check.equal(moves + " moves, no more to take back", Answer.of(table::undo), Answer.ELEMENT);
            check.equal(moves + " moves, the oldest stay", table.size((moves - kept) % 3), 1);
        }
        PatienceTable sent = Tables.told(Tables.of(2, 2, 1, 0, 4, 13), Tables.suit(1, 0, 52, 1));
        sent.move(0, 8, 1);
        for (int k = 0; k < 7; k++) {
            sent.move(8, 1, 1);
            sent.move(1, 8, 1);
        }
        check.equal("fifteen moves", sent.log(), 15);
        check.equal("52 more by sendHome", sent.sendHome(), 52);
        check.equal("60 of 67", sent.log(), 60);
        for (int k = 0; k < 60; k++) {
            sent.undo();
        }
        check.equal("all cards are back", sent.size(HOME), 0);
        check.equal("the first seven moves stay", sent.size(8), 1);
        check.equal("no more", Answer.of(sent::undo), Answer.ELEMENT);
    }

    /** Fills and half empties the log at many different lengths, so that its rows wrap in many places. */
    private static void logRoundAndRound(Check check) {
        for (int step = 1; step <= 60; step += 7) {
            PatienceTable table = wanderer();
            int at = 0;
            int kept = 0;
            for (int calls = 0; calls + 2 * step < 420; calls += step + step / 2 + 1) {
                wander(table, at, step);
                at += step;
                kept = Math.min(60, kept + step);
                check.equal("by " + step + ", log()", table.log(), kept);
                for (int k = 0; k < step / 2; k++) {
                    table.undo();
                    at--;
                    kept--;
                }
                check.equal("by " + step + ", the card", table.size(at % 3), 1);
            }
        }
    }

    private static void logOfRefused(Check check) {
        PatienceTable table = wanderer();
        check.refusesState("not allowed", () -> table.move(1, 0, 1));
        check.refusesArgument("no such place", () -> table.move(0, 3, 1));
        check.refusesState("not allowed, played", () -> table.play('2', '1'));
        check.equal("log() of nothing played", table.log(), 0);
        table.move(0, 1, 1);
        check.equal("log() of one", table.log(), 1);
        check.refusesState("not allowed again", () -> table.move(0, 1, 1));
        table.look(200);
        table.most(1, 2);
        check.equal("log() of one still", table.log(), 1);
        table.play('2', '3');
        check.equal("log() of two", table.log(), 2);
        table.sendHome();
        check.equal("log() of three", table.log(), 3);
        PatienceTable full = wanderer();
        wander(full, 0, 60);
        check.refusesState("not allowed when full", () -> full.move(1, 0, 1));
        check.equal("log() still full", full.log(), 60);
        check.equal("the latest is still there", full.undo(), 1);
        check.equal("the card", full.size(59 % 3), 1);
    }

    private static void logEmptied(Check check) {
        for (String call : List.of("rules", "cards", "deal", "clear")) {
            PatienceTable table = wanderer();
            wander(table, 0, 75);
            switch (call) {
                case "rules" -> table.rules(3, 0, 0, 0);
                case "cards" -> table.cards(1, 1);
                case "deal" -> table.deal(0);
                default -> table.clear();
            }
            check.equal(call + ", log()", table.log(), 0);
            check.equal(call + ", undo()", Answer.of(table::undo), Answer.ELEMENT);
            if (!call.equals("deal")) {
                table.lay(0, 0);
            }
            wander(table, 0, 61);
            check.equal(call + ", log() filled again", table.log(), 60);
            for (int k = 0; k < 60; k++) {
                table.undo();
            }
            check.equal(call + ", the oldest of 61 stays", table.size(1), 1);
            check.equal(call + ", undo() at last", Answer.of(table::undo), Answer.ELEMENT);
        }
    }
}
