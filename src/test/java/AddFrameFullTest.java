/** Promise 2, when PENDING is 3: the refusal. */
public final class AddFrameFullTest {
    private static final Checks checks = new Checks();

    public static void main(String[] args) {
        checks.sentence("**When PENDING is 3 (full):** it answers -1",
                AddFrameFullTest::fullAnswersMinusOne);
        checks.sentence("**When PENDING is 0, 1 or 2:** it does the following.",
                AddFrameFullTest::notFullIsNotRefused);
        checks.sentence("and changes nothing. ACC and PENDING stay exactly as they were.",
                AddFrameFullTest::refusalChangesNothing);
        checks.sentence("Repeated calls while full keep answering -1",
                AddFrameFullTest::repeatedCallsKeepAnsweringMinusOne);
        checks.sentence("and keep changing nothing.",
                AddFrameFullTest::repeatedCallsKeepChangingNothing);
        checks.sentence("at most 3 pending frames",
                AddFrameFullTest::roomOnlyAfterPull);
        checks.end();
    }

    private static boolean isFull(String run) {
        return Runs.after(run).pending() == 3;
    }

    private static void fullAnswersMinusOne() {
        int[] seeds = Frame.edgeSeeds();
        // The count alone makes it full: three zero frames do, with every cell still 0.
        for (String run : new String[] {"nnn", "zzz", "mom", "pzzz", "mommm", "mompo", "mpompom"}) {
            checks.equal("pending() after " + run, Runs.after(run).pending(), 3);
            for (int seed : seeds) {
                checks.equal("addFrame(" + seed + ") after " + run, Runs.after(run).addFrame(seed), -1);
            }
        }
    }

    private static void notFullIsNotRefused() {
        for (String run : Runs.upTo(5)) {
            if (!isFull(run)) {
                OverlapAdd x = Runs.after(run);
                int due = x.pending() + 1;
                checks.equal("addFrame(-1) after " + run, x.addFrame(-1), due);
            }
        }
    }

    private static void refusalChangesNothing() {
        int[] seeds = {0, 1, -1, Runs.MIXED, Integer.MIN_VALUE, Integer.MAX_VALUE};
        for (String run : Runs.upTo(5)) {
            if (isFull(run)) {
                for (int seed : seeds) {
                    OverlapAdd x = Runs.after(run);
                    x.addFrame(seed);
                    checks.alike("addFrame(" + seed + ") after " + run, x, Runs.after(run));
                }
            }
        }
    }

    private static void repeatedCallsKeepAnsweringMinusOne() {
        OverlapAdd x = Runs.after("mom");
        for (int n = 1; n <= 100000; n++) {
            checks.equal("refused call " + n, x.addFrame(n * 40503), -1);
        }
    }

    private static void repeatedCallsKeepChangingNothing() {
        OverlapAdd x = Runs.after("mom");
        int[] full = Checks.cellsOf(x);
        for (int n = 1; n <= 1000; n++) {
            x.addFrame(n * 40503);
            checks.state("after refused call " + n, x, 3, full);
        }
        checks.alike("after all refused calls", x, Runs.after("mom"));
    }

    private static void roomOnlyAfterPull() {
        OverlapAdd x = Runs.after("zzz");
        for (int n = 1; n <= 10; n++) {
            checks.equal("full: addFrame(1)", x.addFrame(1), -1);
            checks.equal("full: pending()", x.pending(), 3);
            x.pull();
            checks.equal("after pull " + n + ": addFrame(1)", x.addFrame(1), 3);
        }
        checks.state("full at the end", x, 3, 1, 0, 0, 0, 1, 0, 0, 0, 1);
    }
}
