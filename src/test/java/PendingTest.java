/** Promise 4: pending reports the frame count. */
public final class PendingTest {
    private static final Checks checks = new Checks();

    public static void main(String[] args) {
        checks.sentence("`int pending()` answers the current PENDING", PendingTest::answersTheCount);
        checks.sentence("always a value in 0..3.", PendingTest::alwaysInRange);
        checks.sentence("It changes no state.", PendingTest::changesNoState);
        checks.sentence("Calling it any number of times gives the same answer",
                PendingTest::sameAnswerAnyNumberOfTimes);
        checks.sentence("until `addFrame` or `pull` changes PENDING.",
                PendingTest::callsThatChangeNothingKeepTheAnswer);
        checks.end();
    }

    private static void answersTheCount() {
        OverlapAdd x = new OverlapAdd();
        checks.equal("new", x.pending(), 0);
        for (int n = 1; n <= 3; n++) {
            x.addFrame(12345 * n);
            checks.equal("after frame " + n, x.pending(), n);
        }
        for (int n = 2; n >= 0; n--) {
            x.pull();
            checks.equal("after a pull", x.pending(), n);
        }
        x.addFrame(0);
        checks.equal("after a zero frame", x.pending(), 1);
    }

    private static void alwaysInRange() {
        for (String run : Runs.upTo(6)) {
            int due = 0;
            for (char call : run.toCharArray()) {
                due = call == 'p' ? Math.max(0, due - 1) : Math.min(3, due + 1);
            }
            checks.equal("after " + run, Runs.after(run).pending(), due);
        }
    }

    private static void changesNoState() {
        for (String run : Runs.upTo(5)) {
            OverlapAdd x = Runs.after(run);
            for (int n = 0; n < 5; n++) {
                x.pending();
            }
            checks.alike("asked after " + run, x, Runs.after(run));
        }
    }

    private static void sameAnswerAnyNumberOfTimes() {
        for (int frames = 0; frames <= 3; frames++) {
            OverlapAdd x = Runs.after("m".repeat(frames));
            for (int n = 1; n <= 100000; n++) {
                checks.equal(frames + " frames, asked for time " + n, x.pending(), frames);
            }
        }
    }

    private static void callsThatChangeNothingKeepTheAnswer() {
        OverlapAdd full = Runs.after("mom");
        full.addFrame(7);
        checks.equal("after a refused frame", full.pending(), 3);
        full.pull();
        checks.equal("after a pull", full.pending(), 2);
        full.at(0);
        full.at(-1);
        full.at(16);
        checks.equal("after readings", full.pending(), 2);
        full.addFrame(7);
        checks.equal("after a frame", full.pending(), 3);

        OverlapAdd empty = new OverlapAdd();
        empty.pull();
        checks.equal("after a pull with nothing pending", empty.pending(), 0);
        empty.addFrame(7);
        checks.equal("after a frame on the empty one", empty.pending(), 1);
    }
}
