import java.util.ArrayList;
import java.util.List;
import java.util.function.Consumer;
import java.util.function.Supplier;

/**
 * Compares two tables that ought to be the same in all that can ever be asked of them: not only in what can be seen,
 * but in what they answer to calls that change them. Each of those needs tables of its own.
 */
final class Twins {
    private static final List<String> WAYS =
            List.of("seen", "taken back", "looked at", "sent home", "laid full", "dealt", "moved");

    private Twins() {
    }

    /** What is done to a table leaves it as it was. */
    static void unchanged(Check check, String what, Supplier<PatienceTable> made, Consumer<PatienceTable> done) {
        same(check, what, made, () -> {
            PatienceTable table = made.get();
            done.accept(table);
            return table;
        });
    }

    /** Two ways of making a table make the same one. */
    static void same(Check check, String what, Supplier<PatienceTable> due, Supplier<PatienceTable> made) {
        for (String way : WAYS) {
            List<Integer> expected = answers(due.get(), way);
            List<Integer> got = answers(made.get(), way);
            check.that(what + ": when " + way + ", " + got + " is not " + expected, got.equals(expected));
        }
    }

    private static List<Integer> answers(PatienceTable table, String way) {
        List<Integer> answers = new ArrayList<>();
        switch (way) {
            case "taken back" -> takeBack(table, answers);
            case "looked at" -> look(table, answers);
            case "sent home" -> answers.add(Answer.of(table::sendHome));
            case "laid full" -> layFull(table, answers);
            case "dealt" -> table.deal(617);
            case "moved" -> move(table, answers);
            default -> answers.add(0);
        }
        answers.addAll(Tables.seen(table));
        return answers;
    }

    private static void takeBack(PatienceTable table, List<Integer> answers) {
        int answer = 0;
        for (int times = 0; times < 70 && answer >= 0; times++) {
            answer = Answer.of(table::undo);
            answers.add(answer);
        }
    }

    private static void look(PatienceTable table, List<Integer> answers) {
        for (int fuel : new int[] {1, 20, 200}) {
            answers.add(Answer.of(() -> table.look(fuel)));
            answers.add(table.hint());
            answers.add(table.positions());
        }
    }

    /** Most columns stay empty, so that what may lie in them and upon the others can be seen. */
    private static void layFull(PatienceTable table, List<Integer> answers) {
        for (int card = 52; card >= 0; card--) {
            int laid = card;
            answers.add(Answer.of(() -> table.lay(laid % 2, laid)));
        }
    }

    private static void move(PatienceTable table, List<Integer> answers) {
        for (int from = 0; from < 12; from++) {
            for (int to = 0; to < 13; to += from < 8 ? 2 : 1) {
                int source = from;
                int target = to;
                answers.add(Answer.of(() -> table.move(source, target, 1)));
            }
        }
    }
}
