import java.util.ArrayList;
import java.util.List;
import java.util.function.Supplier;
import java.util.function.ToIntFunction;

/**
 * 'What is thrown is the first of the exceptions named that fits; what throws leaves everything as it was', and
 * 'False, and nothing is done', in every kind of state that a table can be in.
 */
public final class RefusedCallsTest {
    private static final int HOME = 12;
    private static final int FALSE = 0;
    // Few enough for all that is asked after them to stay within the document's 512 calls.
    private static final int AT_ONCE = 60;

    private record Call(String name, int due, ToIntFunction<PatienceTable> on) {
    }

    private final Check check;
    private final String state;
    private final Supplier<PatienceTable> made;
    private final List<Call> refused = new ArrayList<>();

    private RefusedCallsTest(Check check, String state, Supplier<PatienceTable> made) {
        this.check = check.about(state);
        this.state = state;
        this.made = made;
    }

    public static void main(String[] args) {
        Check check = new Check("refused calls");
        statesAreAsTold(check.about("the states below"));
        of(check, "a new object", PatienceTable::new).ofBare();
        of(check, "one card laid", RefusedCallsTest::oneLaid).ofBare();
        of(check, "one card not laid", RefusedCallsTest::oneLeft).ofBare();
        of(check, "cleared after play and look", RefusedCallsTest::cleared).ofBare();
        of(check, "dealt", RefusedCallsTest::dealt).ofEmptyLog();
        of(check, "in play, a distance found", RefusedCallsTest::looked).ofFull();
        of(check, "in play, unknown", RefusedCallsTest::unknown).ofFull();
        of(check, "lost", RefusedCallsTest::lost).ofEmptyLog();
        of(check, "all but one at home", RefusedCallsTest::allButOne).ofFull();
        of(check, "all at home", RefusedCallsTest::allHome).ofFull();
        of(check, "the log full", RefusedCallsTest::fullLog).ofFull();
        of(check, "all taken back", RefusedCallsTest::takenBack).ofEmptyLog();
        check.end();
    }

    private static void statesAreAsTold(Check check) {
        check.that("a distance found", looked().hint() != PatienceTable.NONE);
        check.that("unknown", unknown().hint() == PatienceTable.NONE && unknown().positions() == 1);
        check.equal("lost", lost().look(200), PatienceTable.LOST);
        check.equal("all but one at home", allButOne().size(HOME), 5);
        check.equal("all at home", allHome().size(HOME), 6);
        check.equal("the log full", fullLog().log(), 60);
        check.equal("all taken back", takenBack().log(), 0);
        check.that("cleared after look", cleared().positions() > 0);
    }

    private static RefusedCallsTest of(Check check, String state, Supplier<PatienceTable> made) {
        return new RefusedCallsTest(check, state, made);
    }

    private static PatienceTable small() {
        return Tables.of(4, 2, 1, 1, 2, 3);
    }

    private static PatienceTable oneLaid() {
        PatienceTable table = small();
        table.lay(3, 0);
        return table;
    }

    private static PatienceTable oneLeft() {
        return Tables.told(small(), "5 2 / 4 1 0");
    }

    private static PatienceTable allLaid() {
        return Tables.told(small(), "5 3 1 / 4 0 2");
    }

    private static PatienceTable cleared() {
        PatienceTable table = looked();
        table.clear();
        return table;
    }

    private static PatienceTable dealt() {
        PatienceTable table = Tables.of(5, 3, 0, 2, 4, 4);
        table.deal(11);
        return table;
    }

    private static PatienceTable inPlay() {
        PatienceTable table = allLaid();
        table.move(1, 9, 1);
        table.move(1, HOME, 1);
        table.move(0, 8, 1);
        return table;
    }

    private static PatienceTable looked() {
        PatienceTable table = inPlay();
        table.look(200);
        return table;
    }

    private static PatienceTable unknown() {
        PatienceTable table = inPlay();
        table.look(3);
        return table;
    }

    private static PatienceTable lost() {
        PatienceTable table = Tables.told(Tables.of(2, 0, 2, 2, 1, 3), "0 2 / 1");
        table.look(200);
        return table;
    }

    private static PatienceTable allButOne() {
        PatienceTable table = allHome();
        table.undo();
        table.look(200);
        return table;
    }

    private static PatienceTable allHome() {
        PatienceTable table = looked();
        table.sendHome();
        return table;
    }

    private static PatienceTable fullLog() {
        PatienceTable table = Tables.told(Tables.of(3, 1, 0, 0, 1, 2), "1/0");
        for (int k = 0; k < 64; k++) {
            table.move(k % 2 == 0 ? 1 : 2, k % 2 == 0 ? 2 : 1, 1);
        }
        table.look(200);
        return table;
    }

    private static PatienceTable takenBack() {
        PatienceTable table = inPlay();
        for (int k = 0; k < 3; k++) {
            table.undo();
        }
        table.look(200);
        return table;
    }

    private void ofBare() {
        refuse("move(0, 1, 1)", Answer.STATE, table -> table.move(0, 1, 1));
        refuse("move(1, 12, 1)", Answer.STATE, table -> table.move(1, HOME, 1));
        refuse("move(0, 0, 2)", Answer.STATE, table -> table.move(0, 0, 2));
        refuse("play('1', '2')", Answer.STATE, table -> table.play('1', '2'));
        refuse("play('2', 'h')", Answer.STATE, table -> table.play('2', 'h'));
        refuse("sendHome()", Answer.STATE, PatienceTable::sendHome);
        refuse("look(1)", Answer.STATE, table -> table.look(1));
        refuse("look(200)", Answer.STATE, table -> table.look(200));
        refuse("undo()", Answer.ELEMENT, PatienceTable::undo);
        compare();
    }

    private void ofEmptyLog() {
        refuse("undo()", Answer.ELEMENT, PatienceTable::undo);
        ofFull();
    }

    private void ofFull() {
        refuse("lay(0, 0)", Answer.STATE, table -> table.lay(0, 0));
        refuse("lay(1, 1)", Answer.STATE, table -> table.lay(1, 1));
        refuse("move(0, 0, 1)", Answer.STATE, table -> table.move(0, 0, 1));
        refuse("move(1, 1, 2)", Answer.STATE, table -> table.move(1, 1, 2));
        refuse("move(0, 12, 2)", Answer.STATE, table -> table.move(0, HOME, 2));
        refuse("move(0, 1, 53)", Answer.STATE, table -> table.move(0, 1, 53));
        refuse("move(0, 1, greatest int)", Answer.STATE, table -> table.move(0, 1, Integer.MAX_VALUE));
        refuse("play('1', '1')", Answer.STATE, table -> table.play('1', '1'));
        compare();
    }

    private void refuse(String name, int due, ToIntFunction<PatienceTable> on) {
        refused.add(new Call(name, due, on));
    }

    private void compare() {
        refuseWrongRules();
        refuseWrongCards();
        refuseWrongArguments();
        for (Call call : refused) {
            PatienceTable table = made.get();
            check.equal(call.name, Answer.of(() -> call.on.applyAsInt(table)), call.due);
            Twins.unchanged(check, call.name, made, same -> Answer.of(() -> call.on.applyAsInt(same)));
        }
        sweep();
    }

    private void refuseWrongRules() {
        int[][] wrong = {{1, 4, 2, 2}, {9, 4, 2, 2}, {8, -1, 2, 2}, {8, 5, 2, 2}, {2, 0, -1, 2}, {2, 0, 3, 2},
            {3, 3, 2, -1}, {3, 3, 2, 3}, {0, 0, 0, 0}, {9, 5, 3, 3}};
        for (int[] rules : wrong) {
            refuse("rules(" + rules[0] + ", " + rules[1] + ", " + rules[2] + ", " + rules[3] + ")", FALSE,
                    table -> table.rules(rules[0], rules[1], rules[2], rules[3]) ? 1 : 0);
        }
    }

    private void refuseWrongCards() {
        int[][] wrong = {{0, 5}, {5, 5}, {3, 0}, {3, 14}, {0, 0}, {5, 14}, {-1, -1}};
        for (int[] cards : wrong) {
            refuse("cards(" + cards[0] + ", " + cards[1] + ")", FALSE,
                    table -> table.cards(cards[0], cards[1]) ? 1 : 0);
        }
    }

    private void refuseWrongArguments() {
        for (int number : new int[] {-1, 32001}) {
            refuse("deal(" + number + ")", Answer.ARGUMENT, table -> {
                table.deal(number);
                return 0;
            });
        }
        for (int[] lay : new int[][] {{-1, 0}, {8, 0}, {12, 0}, {0, -1}, {0, 52}, {-1, -1}}) {
            refuse("lay(" + lay[0] + ", " + lay[1] + ")", Answer.ARGUMENT, table -> table.lay(lay[0], lay[1]));
        }
        int[][] moves = {{-1, 0, 1}, {13, 0, 1}, {12, 0, 1}, {12, 12, 1}, {0, -1, 1}, {0, 13, 1}, {0, 1, 0}, {0, 1, -1},
            {0, 0, 0}, {0, 12, Integer.MIN_VALUE}};
        for (int[] move : moves) {
            refuse("move(" + move[0] + ", " + move[1] + ", " + move[2] + ")", Answer.ARGUMENT,
                    table -> table.move(move[0], move[1], move[2]));
        }
        for (String told : List.of("01", "91", "e1", "h1", "hh", "H1", "10", "19", "1e", "1H", "1 ", "xx")) {
            refuse("play(" + told + ")", Answer.ARGUMENT, table -> table.play(told.charAt(0), told.charAt(1)));
        }
        for (int n : new int[] {-1, 0, 201, Integer.MAX_VALUE}) {
            refuse("look(" + n + ")", Answer.ARGUMENT, table -> table.look(n));
        }
    }

    /** Whatever is refused of all moves, of all told in characters and of all layings leaves all as it was. */
    private void sweep() {
        List<Call> all = new ArrayList<>();
        for (int from = -1; from <= 13; from++) {
            for (int to = -1; to <= 13; to++) {
                for (int m = 0; m <= 3; m++) {
                    int[] move = {from, to, m};
                    all.add(new Call("move", 0, table -> table.move(move[0], move[1], move[2])));
                }
            }
        }
        String told = "012345678 9`abcdehH";
        for (char from : told.toCharArray()) {
            for (char to : told.toCharArray()) {
                all.add(new Call("play", 0, table -> table.play(from, to)));
            }
        }
        for (int column = -1; column <= 8; column += 3) {
            for (int card = -1; card <= 52; card++) {
                int[] lay = {column, card};
                all.add(new Call("lay", 0, table -> table.lay(lay[0], lay[1])));
            }
        }
        compareInParts(all);
    }

    private void compareInParts(List<Call> all) {
        List<Call> part = new ArrayList<>();
        for (Call call : all) {
            PatienceTable table = made.get();
            if (Answer.of(() -> call.on.applyAsInt(table)) < 0) {
                part.add(call);
            }
            if (part.size() == AT_ONCE) {
                compareAtOnce(part);
                part.clear();
            }
        }
        compareAtOnce(part);
    }

    private void compareAtOnce(List<Call> part) {
        Twins.unchanged(check, state + ", some refused calls, the first a " + (part.isEmpty() ? "" : part.get(0).name),
                made, table -> {
                    for (Call call : part) {
                        check.that(call.name + " is refused again", Answer.of(() -> call.on.applyAsInt(table)) < 0);
                    }
                });
    }
}
