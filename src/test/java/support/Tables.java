import java.util.ArrayList;
import java.util.List;

/** Ways to bring a table about and to see all of it. */
final class Tables {
    private Tables() {
    }

    static PatienceTable of(int columns, int cells, int build, int fill, int suits, int ranks) {
        PatienceTable table = new PatienceTable();
        if (!table.rules(columns, cells, build, fill) || !table.cards(suits, ranks)) {
            throw new IllegalArgumentException("no such table");
        }
        return table;
    }

    /** Lays column after column, each from its lowest card up. */
    static PatienceTable laid(PatienceTable table, int[]... columns) {
        for (int column = 0; column < columns.length; column++) {
            for (int card : columns[column]) {
                table.lay(column, card);
            }
        }
        return table;
    }

    /** Lays columns told as a text, each from its lowest card up: "2 0 / 3 1" are two columns of two cards. */
    static PatienceTable told(PatienceTable table, String columns) {
        int column = 0;
        for (String cards : columns.split("/", -1)) {
            for (String card : cards.trim().split(" +")) {
                if (!card.isEmpty()) {
                    table.lay(column, Integer.parseInt(card));
                }
            }
            column++;
        }
        return table;
    }

    /** The cards of one suit from one rank to another, rising or falling, as a text for told. */
    static String suit(int suits, int suit, int fromRank, int toRank) {
        StringBuilder told = new StringBuilder();
        int step = fromRank <= toRank ? 1 : -1;
        for (int rank = fromRank; rank != toRank + step; rank += step) {
            told.append(suits * (rank - 1) + suit).append(' ');
        }
        return told.toString();
    }

    /** All that can be seen without changing anything, in few enough calls to be asked twice of one object. */
    static List<Integer> seen(PatienceTable table) {
        List<Integer> all = new ArrayList<>();
        for (int place = 0; place <= 12; place++) {
            int size = table.size(place);
            all.add(size);
            for (int k = 0; k < (place == 12 ? 4 : size); k++) {
                all.add(table.card(place, k));
            }
        }
        for (int from = 0; from < 8; from++) {
            for (int to = 0; to < 8; to++) {
                all.add(table.most(from, to));
            }
        }
        all.add(table.log());
        all.add(table.hint());
        all.add(table.positions());
        return all;
    }
}
