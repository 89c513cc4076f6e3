import java.util.Arrays;

/** Holds the program against sentences of the document, and prints each answer that is not the one that is due. */
final class Checks {
    static final int CELLS = 16;

    private String sentence = "";
    private int sentences = 0;
    private int wrong = 0;
    private int wrongBefore = 0;

    /** Runs the test of one sentence; a call that throws breaks the sentence as a wrong answer does. */
    void sentence(String words, Runnable test) {
        sentence = words;
        sentences++;
        wrongBefore = wrong;
        try {
            test.run();
        } catch (RuntimeException | Error thrown) {
            report("a call threw " + thrown);
        }
    }

    void equal(String what, int got, int due) {
        if (got != due) {
            report(what + " answered " + got + ", due is " + due);
        }
    }

    void isTrue(String what, boolean holds) {
        if (!holds) {
            report(what + " does not hold");
        }
    }

    /** Checks PENDING and all sixteen cells; the cells after the given ones are due to be 0. */
    void state(String when, OverlapAdd x, int duePending, int... dueCells) {
        equal(when + ": pending()", x.pending(), duePending);
        cells(when, x, dueCells);
    }

    /** Checks all sixteen cells alone; the cells after the given ones are due to be 0. */
    void cells(String when, OverlapAdd x, int... dueCells) {
        int[] due = Arrays.copyOf(dueCells, CELLS);
        for (int i = 0; i < CELLS; i++) {
            equal(when + ": at(" + i + ")", x.at(i), due[i]);
        }
    }

    /** Checks that two objects cannot be told apart, now or by what they answer later. Uses both up. */
    void alike(String when, OverlapAdd x, OverlapAdd untouched) {
        state(when, x, untouched.pending(), cellsOf(untouched));
        equal(when + ", later: addFrame(77777)", x.addFrame(77777), untouched.addFrame(77777));
        for (int n = 1; n <= 5; n++) {
            equal(when + ", later: pull() " + n, x.pull(), untouched.pull());
            state(when + ", later, after pull " + n, x, untouched.pending(), cellsOf(untouched));
        }
    }

    static int[] cellsOf(OverlapAdd x) {
        int[] cells = new int[CELLS];
        for (int i = 0; i < CELLS; i++) {
            cells[i] = x.at(i);
        }
        return cells;
    }

    /** Ends the program, with exit code 1 if an answer was wrong. */
    void end() {
        if (wrong != 0) {
            System.out.println(wrong + " answers are not as due");
            System.exit(1);
        }
        System.out.println("all answers are as due, for " + sentences + " sentences");
    }

    private void report(String text) {
        if (wrong == wrongBefore) {
            System.out.println("BROKEN: " + sentence);
        }
        wrong++;
        // The first answers show the fault; thousands more of the same would hide it.
        if (wrong - wrongBefore <= 20) {
            System.out.println("  " + text);
        }
    }
}
