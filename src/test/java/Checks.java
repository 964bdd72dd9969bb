import java.util.NoSuchElementException;
import java.util.function.Supplier;

/** Counts what a test found wrong, prints the first of it, and ends the test with exit code 1 if there was any. */
final class Checks {
    private static final int MOST_PRINTED = 50;

    /** A call that may throw. */
    interface Call {
        int answer();
    }

    private int made;
    private int wrong;

    void same(String call, long got, long due) {
        made++;
        if (got != due) {
            fail(call + " answered " + got + ", due is " + due);
        }
    }

    /** Where a call's name is dear to make, it is made only if it is needed. */
    void same(Supplier<String> call, long got, long due) {
        same(got == due ? "" : call.get(), got, due);
    }

    void yes(String what, boolean holds) {
        same(what, holds ? 1 : 0, 1);
    }

    void no(String what, boolean holds) {
        same(what, holds ? 1 : 0, 0);
    }

    void missing(String call, Call run) {
        made++;
        try {
            fail(call + " answered " + run.answer() + ", due is a NoSuchElementException");
        } catch (NoSuchElementException due) {
            // as it should be
        }
    }

    void fail(String text) {
        wrong++;
        if (wrong <= MOST_PRINTED) {
            System.out.println(text);
        }
    }

    void end() {
        System.out.println(made + " checks, " + wrong + " wrong");
        if (wrong != 0) {
            System.exit(1);
        }
    }
}
