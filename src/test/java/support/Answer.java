import java.util.NoSuchElementException;

/** A call's answer or, if it threw, a number that tells what. */
final class Answer {
    static final int ARGUMENT = -101;
    static final int STATE = -102;
    static final int ELEMENT = -103;
    static final int OTHER = -104;

    interface Call {
        int answer();
    }

    private Answer() {
    }

    static int of(Call call) {
        try {
            return call.answer();
        } catch (RuntimeException e) {
            return numberOf(e.getClass());
        }
    }

    /** Exactly these classes: a kind of IllegalArgumentException, such as NumberFormatException, is not due. */
    private static int numberOf(Class<?> thrown) {
        if (thrown == IllegalArgumentException.class) {
            return ARGUMENT;
        }
        if (thrown == IllegalStateException.class) {
            return STATE;
        }
        return thrown == NoSuchElementException.class ? ELEMENT : OTHER;
    }
}
