import java.util.function.BooleanSupplier;
import java.util.function.IntSupplier;

/** Counts the answers that are not the ones that are due. */
final class Check {
    private final String title;
    private int wrong = 0;
    private int asked = 0;

    Check(String title) {
        this.title = title;
    }

    int asked() {
        return asked;
    }

    int wrong() {
        return wrong;
    }

    void same(String what, Object due, Object got) {
        asked++;
        if (!due.equals(got)) {
            wrong++;
            System.out.println(title + ": " + what + " answered " + got + ", due is " + due);
        }
    }

    /** Each answer as a text, an exception as its class's simple name, so that both can be asked alike. */
    static String answer(IntSupplier call) {
        try {
            return Integer.toString(call.getAsInt());
        } catch (RuntimeException e) {
            return e.getClass().getSimpleName();
        }
    }

    static String answer(BooleanSupplier call) {
        try {
            return Boolean.toString(call.getAsBoolean());
        } catch (RuntimeException e) {
            return e.getClass().getSimpleName();
        }
    }

    void is(String what, int due, IntSupplier call) {
        same(what, Integer.toString(due), answer(call));
    }

    void isTrue(String what, BooleanSupplier call) {
        same(what, "true", answer(call));
    }

    void isFalse(String what, BooleanSupplier call) {
        same(what, "false", answer(call));
    }

    void throwsIndex(String what, IntSupplier call) {
        same(what, "IndexOutOfBoundsException", answer(call));
    }

    void throwsIndex(String what, BooleanSupplier call) {
        same(what, "IndexOutOfBoundsException", answer(call));
    }

    void throwsArgument(String what, IntSupplier call) {
        same(what, "IllegalArgumentException", answer(call));
    }

    void throwsArgument(String what, BooleanSupplier call) {
        same(what, "IllegalArgumentException", answer(call));
    }

    void throwsState(String what, IntSupplier call) {
        same(what, "IllegalStateException", answer(call));
    }

    void end() {
        System.out.println(title + ": " + asked + " answers, " + wrong + " wrong");
        if (wrong != 0 || asked == 0) {
            System.exit(1);
        }
    }
}
