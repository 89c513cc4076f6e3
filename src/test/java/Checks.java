import java.util.Arrays;

/** Counts and prints the answers that are not the ones that are due. */
final class Checks {
    static final int CELLS = 16;

    private int wrong = 0;

    void equal(String what, int got, int due) {
        if (got != due) {
            report(what + " answered " + got + ", due is " + due);
        }
    }

    void isTrue(String what, boolean holds) {
        if (!holds) {
            report(what + " does not hold");
        }
    }

    /** Checks PENDING and all sixteen cells; the cells after the given ones are due to be 0. */
    void state(String when, OverlapAdd x, int duePending, int... dueCells) {
        equal(when + ": pending()", x.pending(), duePending);
        int[] due = Arrays.copyOf(dueCells, CELLS);
        for (int i = 0; i < CELLS; i++) {
            equal(when + ": at(" + i + ")", x.at(i), due[i]);
        }
    }

    static int[] cells(OverlapAdd x) {
        int[] cells = new int[CELLS];
        for (int i = 0; i < CELLS; i++) {
            cells[i] = x.at(i);
        }
        return cells;
    }

    /** Ends the program, with exit code 1 if an answer was wrong. */
    void end() {
        System.out.println(wrong == 0 ? "all answers are as due" : wrong + " answers are not as due");
        if (wrong != 0) {
            System.exit(1);
        }
    }

    private void report(String text) {
        wrong++;
        System.out.println(text);
    }
}
