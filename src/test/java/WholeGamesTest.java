import java.util.ArrayList;
import java.util.List;

/** 'A table for patience games': whole games from the deal to the last card, one for each BUILD and each FILL. */
public final class WholeGamesTest {
    private static final int HOME = 12;
    private static final int CARDS = 52;

    // Found by a program that knows nothing of this class: two characters tell a move, a digit behind them a row.
    private static final Played BY_COLOURS = new Played(1, new int[] {8, 4, 0, 0},
            "1a 1b 1c 5d 52 61 61 6h 6h 1h c5 6c a6 8a 87 82 8h b2 1b 1h 1h 5h d7 1d a1 8a 86 c8 182 d1 813 783 4c 74 "
            + "7d 7h 3h ah 5h 6h ch 3a 3h 3c 31 a3 232 5a 5h 56 472 242 21 25 2h 8h c7 452 4c 42 a2 4a 4h c4 352 342 "
            + "832 282 2c a2 632 6h 262 2h bh dh 724 7h 3h 3h 5h 3h 3h 4h 5h 1h 1h 4h 2h 5h 3h 4h 2h 5h 5h 1h 4h 1h "
            + "1h 6h 1h 6h 8h 8h 2h 2h ch");
    private static final Played BY_SUITS = new Played(5, new int[] {8, 4, 1, 0},
            "2h 1a 1b 2c 2d 48 63 a8 2a 24 2h 28 72 a8 7a 72 c2 1c 78 c8 7c 7h 17 1h 13 1h bh 412 47 4b 4h ah 5a d4 6d "
            + "64 6h ah bh 5a 5h 5b 51 c5 3c 65 6h 36 c6 3c 3h 4h 4h 4h c3 4c a4 c4 563 352 3a 3c 32 3h 522 832 a5 752 "
            + "872 372 843 8h 852 8h 8h 1h 1h 1h 5h 5h 5h 5h 5h dh bh 6h 6h 6h 6h 6h 2h 2h 2h 2h 2h 2h ch 7h 7h 7h 7h "
            + "4h 4h 4h 4h 4h");
    private static final Played GREATEST_INTO_EMPTY = new Played(11, new int[] {8, 4, 2, 1},
            "6h 21 2a 2b 2c 2d 35 36 23 21 45 42 a2 622 62 72 62 522 6h 4a c6 4c 45 85 8h 1h 3h 8h 8h 8h 1h b8 7b 7h "
            + "4h 3h 3h 5h 5h bh 2h 38 57 5h 56 52 5h 5h 1h 1h 2h 2h 2h 2h 7h 7h 2h 1b 12 1h 2h 12 1h 3h 3h 4h ch 6h "
            + "2h 2h bh dh 6h 6h 7h 2h 2h 2h 7h 8h 8h 8h ah");
    private static final Played NONE_INTO_EMPTY = new Played(20, new int[] {8, 4, 2, 2},
            "2h 8h 8h 2a 2b 2c 2d 24 32 3h 1h 32 3h 3h 6h 61 6h a1 3a 61 6h 4h 36 45 4h 4h dh 1h 4d 81 81 8h 58 51 a4 "
            + "5a 5h 5h 75 78 7h 6h 86 8h ah 682 7a 7h 2h 5h 5h 8h ch a5 452 4h 4h 152 173 2h 2h 1a b7 872 1b 1c 75 7h "
            + "7h 7h ch 1h 1h 5h 5h 5h bh 5h 5h dh 7h 5h 1h 5h 7h 7h ah");

    private record Played(int deal, int[] rules, String moves) {
        List<String> told() {
            return List.of(moves.split(" "));
        }

        /** The table after so many of the moves. */
        PatienceTable after(int moves) {
            PatienceTable table = new PatienceTable();
            table.rules(rules[0], rules[1], rules[2], rules[3]);
            table.deal(deal);
            for (String move : told().subList(0, moves)) {
                table.play(move.charAt(0), move.charAt(1));
            }
            return table;
        }

        @Override
        public String toString() {
            return "deal " + deal + ", BUILD " + rules[2] + ", FILL " + rules[3];
        }
    }

    private WholeGamesTest() {
    }

    public static void main(String[] args) {
        Check check = new Check("whole games");
        for (Played played : List.of(BY_COLOURS, BY_SUITS, GREATEST_INTO_EMPTY, NONE_INTO_EMPTY)) {
            toTheEnd(check.about("'told in two characters', " + played), played);
            byNumbers(check.about("'cards moved one by one or in built rows', " + played), played);
            eachCardOnce(check.about("'A card is in a column, in a cell, or at home', " + played), played);
            takenBack(check.about("'taken back', " + played), played);
            sentHome(check.about("'sent home where that does no harm', " + played), played);
            shortestWay(check.about("'a shortest way to the end', " + played), played);
        }
        check.end();
    }

    private static int amountOf(String move) {
        return move.length() > 2 ? move.charAt(2) - '0' : 1;
    }

    private static int placeOf(char told) {
        return "12345678abcdh".indexOf(told);
    }

    private static void toTheEnd(Check check, Played played) {
        PatienceTable table = played.after(0);
        int count = 0;
        for (String move : played.told()) {
            count++;
            int answer = Answer.of(() -> table.play(move.charAt(0), move.charAt(1)));
            check.equal("move " + count + ", " + move, answer, amountOf(move));
            check.equal("log() after move " + count, table.log(), Math.min(count, 60));
        }
        check.equal("all cards at home", table.size(HOME), CARDS);
        check.equal("the distance", table.look(1), 0);
        for (int suit = 0; suit < 4; suit++) {
            check.equal("the top of suit " + suit, table.card(HOME, suit), CARDS - 4 + suit);
        }
    }

    private static void byNumbers(Check check, Played played) {
        PatienceTable table = played.after(0);
        int atHome = 0;
        for (String move : played.told()) {
            int from = placeOf(move.charAt(0));
            int to = placeOf(move.charAt(1));
            atHome += to == HOME ? 1 : 0;
            int answer = Answer.of(() -> table.move(from, to, amountOf(move)));
            check.equal("move " + move, answer, atHome);
        }
    }

    private static void eachCardOnce(Check check, Played played) {
        int all = played.told().size();
        for (int moves = 0; moves <= all; moves += 8) {
            PatienceTable table = played.after(moves);
            List<Integer> cards = new ArrayList<>();
            for (int place = 0; place < HOME; place++) {
                int size = table.size(place);
                check.that("after " + moves + ", cell " + place + " has " + size, place < 8 || size <= 1);
                for (int k = 0; k < size; k++) {
                    cards.add(table.card(place, k));
                }
            }
            int besideHome = cards.size();
            for (int suit = 0; suit < 4; suit++) {
                for (int card = table.card(HOME, suit); card >= 0; card -= 4) {
                    cards.add(card);
                }
            }
            check.equal("after " + moves + ", cards at home", table.size(HOME), cards.size() - besideHome);
            check.equal("after " + moves + ", cards in all", cards.size(), CARDS);
            check.equal("after " + moves + ", different cards", cards.stream().distinct().count(), CARDS);
        }
    }

    private static void takenBack(Check check, Played played) {
        int all = played.told().size();
        for (int moves = 60; moves <= all; moves += 15) {
            PatienceTable table = played.after(moves);
            for (int left = moves; left > moves - 60; left--) {
                check.equal("move " + left + " back", table.undo(), amountOf(played.told().get(left - 1)));
            }
            check.equal("log() of 60 taken back", table.log(), 0);
            List<Integer> due = Tables.seen(played.after(moves - 60));
            due.set(due.size() - 3, 0);
            check.that("60 moves back from " + moves, Tables.seen(table).equals(due));
        }
    }

    /** In these games all that is left before the last moves may go home, one safe card after the other. */
    private static void sentHome(Check check, Played played) {
        int all = played.told().size();
        for (int left = 0; left <= 10; left++) {
            PatienceTable table = played.after(all - left);
            int atHome = table.size(HOME);
            check.equal(left + " moves before the end", table.sendHome(), CARDS - atHome);
            check.equal("all cards at home", table.size(HOME), CARDS);
        }
    }

    /** The last cards go home by one move each, and hints lead there. */
    private static void shortestWay(Check check, Played played) {
        int all = played.told().size();
        for (int left = 0; left <= 4; left++) {
            PatienceTable table = played.after(all - left);
            int away = CARDS - table.size(HOME);
            check.equal("each of the last cards needs a move", table.look(200), away);
            for (int distance = away; distance > 0; distance--) {
                check.equal("on the way", table.look(200), distance);
                int hint = table.hint();
                check.equal("by hint " + hint, table.move(hint / 16, hint % 16, 1), CARDS - distance + 1);
            }
            check.equal("hint() at the end", table.hint(), PatienceTable.NONE);
        }
    }
}
