import java.util.function.Supplier;

/** Counts what a test asks; a test ends by end(), with exit code 1 if an answer was not the one due. */
final class Checks {
    private int asked;
    private int wrong;

    void due(String what, Object got, Object want) {
        asked++;
        if (!want.equals(got)) {
            wrong++;
            System.out.println(what + " answered " + got + ", due is " + want);
        }
    }

    void dueThrow(String what, Class<? extends RuntimeException> want, Supplier<?> call) {
        due(what, answer(call), "throws." + want.getSimpleName());
    }

    /** The answer of a call as a value, be it one or the exception that the call throws. */
    static Object answer(Supplier<?> call) {
        try {
            return call.get();
        } catch (RuntimeException e) {
            return "throws." + e.getClass().getSimpleName();
        }
    }

    void end() {
        System.out.println(asked + " answers asked, " + wrong + " wrong");
        if (wrong != 0 || asked == 0) {
            System.exit(1);
        }
    }
}
