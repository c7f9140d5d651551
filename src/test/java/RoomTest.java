import java.lang.management.ManagementFactory;

/** All calls of a run live in one room, so calls use the rows that the constructor made and make none. */
public final class RoomTest {
    private static final com.sun.management.ThreadMXBean MEMORY =
            (com.sun.management.ThreadMXBean) ManagementFactory.getThreadMXBean();
    // Asking for the number makes a few objects itself.
    private static final long ALLOWANCE = 2_000;

    private RoomTest() {
    }

    public static void main(String[] args) {
        Check check = new Check("room");
        callsOf(new PatienceTable());
        long before = MEMORY.getCurrentThreadAllocatedBytes();
        PatienceTable table = new PatienceTable();
        long made = MEMORY.getCurrentThreadAllocatedBytes() - before;
        check.that("a new object took " + made + " bytes", made < 100_000);
        before = MEMORY.getCurrentThreadAllocatedBytes();
        callsOf(table);
        long used = MEMORY.getCurrentThreadAllocatedBytes() - before;
        check.that("its calls took " + used + " bytes", used < ALLOWANCE);
        check.end();
    }

    private static void callsOf(PatienceTable table) {
        table.rules(8, 4, 2, 0);
        table.cards(4, 13);
        for (int k = 0; k < 60; k++) {
            table.deal(100 * k);
            table.move(0, 8, 1);
            table.look(200);
            table.hint();
            table.positions();
            table.undo();
            table.play('1', 'b');
            table.sendHome();
        }
    }
}
