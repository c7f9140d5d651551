import java.util.ArrayList;
import java.util.Collections;
import java.util.List;
import java.util.Random;

/** Random runs of calls, each made of the program and of the plain model, which must answer the same. */
public final class ModelTest {
    private static final int RUNS = 1500;
    // The last comparison of all cards and one more step stay below the document's 512 calls then.
    private static final int CALLS = 380;

    private final Check check;
    private final Random random;
    private final PatienceTable table = new PatienceTable();
    private final PlainModel model = new PlainModel();
    private final int run;
    private final int[] kinds;
    private final boolean isLively;
    private int calls = 0;

    private ModelTest(Check check, int run, int[] kinds) {
        this.check = check;
        this.run = run;
        this.kinds = kinds;
        this.random = new Random(run);
        this.isLively = chance(20);
    }

    public static void main(String[] args) {
        Check check = new Check("model");
        int[] kinds = new int[5];
        for (int run = 0; run < RUNS; run++) {
            new ModelTest(check, run, kinds).go();
        }
        String[] names = {"distances", "lost", "unknown", "built rows moved", "full logs"};
        for (int kind = 0; kind < kinds.length; kind++) {
            check.that("the runs came to " + kinds[kind] + " " + names[kind], kinds[kind] >= 200);
        }
        check.end();
    }

    private void go() {
        chooseGame();
        while (calls < CALLS) {
            step();
        }
        compareAll();
        check.that("run " + run + " made " + calls + " calls", calls <= 512);
    }

    private int compare(String what, Answer.Call ofTable, Answer.Call ofModel) {
        calls++;
        int due = Answer.of(ofModel);
        check.equal("run " + run + ": " + what, Answer.of(ofTable), due);
        return due;
    }

    private int pick(int least, int most) {
        return least + random.nextInt(most - least + 1);
    }

    private boolean chance(int percent) {
        return random.nextInt(100) < percent;
    }

    private void chooseGame() {
        if (chance(10)) {
            return;
        }
        chooseRules(pick(2, 8), pick(0, 4), pick(0, 2), pick(0, 2));
        chooseCards(pick(1, 4), chance(50) ? pick(1, 4) : pick(1, 13));
        fillTable();
    }

    private void chooseRules(int columns, int cells, int build, int fill) {
        compare("rules(" + columns + ", " + cells + ", " + build + ", " + fill + ")",
                () -> table.rules(columns, cells, build, fill) ? 1 : 0,
                () -> model.rules(columns, cells, build, fill) ? 1 : 0);
    }

    private void chooseCards(int suits, int ranks) {
        compare("cards(" + suits + ", " + ranks + ")",
                () -> table.cards(suits, ranks) ? 1 : 0, () -> model.cards(suits, ranks) ? 1 : 0);
    }

    private void fillTable() {
        if (chance(50)) {
            deal(pick(0, 32000));
        } else {
            layAll();
        }
    }

    private void deal(int number) {
        compare("deal(" + number + ")", () -> {
            table.deal(number);
            return 0;
        }, () -> {
            model.deal(number);
            return 0;
        });
    }

    private void clear() {
        calls++;
        table.clear();
        model.clear();
    }

    /** Mostly falling ranks, so that there are built rows and ways to the end. */
    private void layAll() {
        clear();
        List<Integer> cards = new ArrayList<>();
        for (int card = model.suits * model.ranks - 1; card >= 0; card--) {
            cards.add(card);
        }
        for (int swaps = pick(0, 4); swaps > 0; swaps--) {
            Collections.swap(cards, random.nextInt(cards.size()), random.nextInt(cards.size()));
        }
        boolean bySuit = chance(50);
        int used = pick(1, model.columns);
        for (int card : cards) {
            lay(bySuit ? card % model.suits % used : random.nextInt(used), card);
        }
    }

    private void lay(int column, int card) {
        compare("lay(" + column + ", " + card + ")", () -> table.lay(column, card), () -> model.lay(column, card));
    }

    private void move(int from, int to, int m) {
        int answer = compare("move(" + from + ", " + to + ", " + m + ")",
                () -> table.move(from, to, m), () -> model.move(from, to, m));
        kinds[3] += answer >= 0 && m > 1 ? 1 : 0;
    }

    private void step() {
        // A lively run hardly does anything but move, so that its log fills.
        int kind = random.nextInt(isLively ? 62 : 100);
        if (kind < 40) {
            moveSomething();
        } else if (kind < 50) {
            playSomething();
        } else if (kind < 60) {
            takeBack();
        } else if (kind < 72) {
            look();
        } else if (kind < 75) {
            compare("sendHome()", table::sendHome, model::sendHome);
        } else if (kind < 98) {
            ask();
        } else {
            turnOver();
        }
        kinds[4] += model.log() == 60 ? 1 : 0;
    }

    private void moveSomething() {
        List<Integer> singles = model.singles();
        if (chance(70) && !singles.isEmpty()) {
            int move = singles.get(random.nextInt(singles.size()));
            move(move / 16, move % 16, 1);
        } else if (chance(80)) {
            moveRow();
        } else {
            move(pick(-1, 13), pick(-1, 13), chance(80) ? pick(-1, 5) : Integer.MAX_VALUE);
        }
    }

    private void moveRow() {
        List<int[]> pairs = new ArrayList<>();
        for (int from = 0; from < model.columns; from++) {
            for (int to = 0; to < model.columns; to++) {
                if (model.most(from, to) > 1) {
                    pairs.add(new int[] {from, to, model.most(from, to)});
                }
            }
        }
        if (!pairs.isEmpty()) {
            int[] pair = pairs.get(random.nextInt(pairs.size()));
            move(pair[0], pair[1], chance(50) ? pair[2] : pick(1, pair[2] + 1));
        }
    }

    private void playSomething() {
        String told = "12345678abcdh";
        char from = chance(95) ? told.charAt(random.nextInt(told.length())) : (char) random.nextInt(300);
        char to = chance(95) ? told.charAt(random.nextInt(told.length())) : (char) random.nextInt(300);
        compare("play(" + from + ", " + to + ")", () -> table.play(from, to), () -> model.play(from, to));
    }

    private void takeBack() {
        for (int times = chance(98) ? 1 : pick(1, 65); times > 0; times--) {
            compare("undo()", table::undo, model::undo);
        }
    }

    private void look() {
        int n = chance(90) ? pick(1, 200) : pick(-1, 202);
        int answer = compare("look(" + n + ")", () -> table.look(n), () -> model.look(n));
        kinds[0] += answer > 0 ? 1 : 0;
        kinds[1] += answer == -3 ? 1 : 0;
        kinds[2] += answer == -2 ? 1 : 0;
        compare("hint()", table::hint, model::hint);
        compare("positions()", table::positions, model::positions);
    }

    private void ask() {
        int place = pick(-1, 13);
        int other = pick(-1, 13);
        int k = pick(-1, 8);
        compare("card(" + place + ", " + k + ")", () -> table.card(place, k), () -> model.card(place, k));
        compare("size(" + place + ")", () -> table.size(place), () -> model.size(place));
        compare("most(" + place + ", " + other + ")",
                () -> table.most(place, other), () -> model.most(place, other));
        compare("log()", table::log, model::log);
        compare("hint()", table::hint, model::hint);
        compare("positions()", table::positions, model::positions);
    }

    private void turnOver() {
        int kind = random.nextInt(10);
        if (kind < 2) {
            chooseRules(pick(1, 9), pick(-1, 5), pick(-1, 3), pick(-1, 3));
        } else if (kind < 4) {
            chooseCards(pick(0, 5), pick(0, 14));
        } else if (kind < 6) {
            clear();
        } else if (kind < 8) {
            deal(pick(-100, 32100));
        } else {
            lay(pick(-1, 8), pick(-1, 52));
        }
        if (chance(70)) {
            fillTable();
        }
    }

    private void compareAll() {
        for (int place = 0; place <= 12; place++) {
            int at = place;
            int size = compare("at last size(" + at + ")", () -> table.size(at), () -> model.size(at));
            for (int k = 0; k < (at == 12 ? 4 : size); k++) {
                int number = k;
                compare("at last card(" + at + ", " + k + ")",
                        () -> table.card(at, number), () -> model.card(at, number));
            }
        }
        compare("at last log()", table::log, model::log);
    }
}
