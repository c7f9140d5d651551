/** Compares answers with those that are due, and tells at the end whether all were right. */
final class Check {
    private final String name;
    private String part = "";
    private int compared = 0;
    private int wrong = 0;

    Check(String name) {
        this.name = name;
    }

    /** What is compared from now on belongs to this part. */
    Check about(String newPart) {
        part = newPart + ", ";
        return this;
    }

    void equal(String what, long got, long due) {
        that(what + " answered " + got + ", due is " + due, got == due);
    }

    void that(String what, boolean holds) {
        compared++;
        if (!holds) {
            wrong++;
            System.out.println(name + ": " + part + what);
        }
    }

    void throwsIt(String what, Class<? extends RuntimeException> due, Runnable call) {
        Class<?> got = null;
        try {
            call.run();
        } catch (RuntimeException e) {
            got = e.getClass();
        }
        that(what + " threw " + got + ", due is " + due, got == due);
    }

    void refusesArgument(String what, Runnable call) {
        throwsIt(what, IllegalArgumentException.class, call);
    }

    void refusesState(String what, Runnable call) {
        throwsIt(what, IllegalStateException.class, call);
    }

    void end() {
        System.out.println(name + ": " + compared + " answers, " + wrong + " wrong");
        if (wrong != 0) {
            System.exit(1);
        }
    }
}
