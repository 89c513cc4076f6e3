/** Promise 3: pull takes out one sample and shifts by the hop. */
public final class PullTest {
    private static final Checks checks = new Checks();

    public static void main(String[] args) {
        exampleOfTheDocument();
        pullOnNewObject();
        pullShiftsEveryCell();
        pullLowersPendingDownToZero();
        pullWithNothingPendingFlushesTail();
        pullAfterManyEmptyPulls();
        checks.end();
    }

    private static void exampleOfTheDocument() {
        OverlapAdd x = new OverlapAdd();
        x.addFrame(-1);
        checks.equal("first pull()", x.pull(), -1);
        checks.state("after the first pull", x, 0, -4, -3, -2, -1);
        checks.equal("second pull()", x.pull(), -4);
        checks.state("after the second pull", x, 0);
    }

    private static void pullOnNewObject() {
        OverlapAdd x = new OverlapAdd();
        for (int n = 0; n < 5; n++) {
            checks.equal("new: pull()", x.pull(), 0);
            checks.state("new, after pull", x, 0);
        }
    }

    private static void pullShiftsEveryCell() {
        OverlapAdd x = new OverlapAdd();
        x.addFrame(1000003);
        x.addFrame(-2000029);
        x.addFrame(123456789);
        for (int n = 1; n <= 4; n++) {
            int[] before = Checks.cells(x);
            checks.equal("pull() " + n, x.pull(), before[0]);
            int[] due = new int[Checks.CELLS];
            System.arraycopy(before, 4, due, 0, 12);
            checks.state("after pull " + n, x, Math.max(0, 3 - n), due);
        }
        checks.state("after four pulls", x, 0);
    }

    private static void pullLowersPendingDownToZero() {
        OverlapAdd x = new OverlapAdd();
        x.addFrame(-1);
        x.addFrame(-1);
        x.addFrame(-1);
        int[] dueAnswers = {-1, -5, -5, -4, 0, 0};
        int[] duePending = {2, 1, 0, 0, 0, 0};
        for (int n = 0; n < dueAnswers.length; n++) {
            checks.equal("pull() " + (n + 1), x.pull(), dueAnswers[n]);
            checks.equal("pending() after pull " + (n + 1), x.pending(), duePending[n]);
        }
    }

    private static void pullWithNothingPendingFlushesTail() {
        OverlapAdd x = new OverlapAdd();
        x.addFrame(0x8000);
        checks.equal("pull() of the head", x.pull(), -32768);
        checks.state("tail", x, 0, 4 * 2048, 3 * 1024, 2 * 512, 256);
        checks.equal("pull() of the tail", x.pull(), 8192);
        checks.state("flushed", x, 0);
    }

    private static void pullAfterManyEmptyPulls() {
        OverlapAdd x = new OverlapAdd();
        for (int n = 0; n < 100; n++) {
            x.pull();
        }
        checks.equal("addFrame(-1) after empty pulls", x.addFrame(-1), 1);
        checks.state("after empty pulls and a frame", x, 1, -1, -2, -3, -4, -4, -3, -2, -1);
    }
}
