/** Promise 3: pull takes out one sample and shifts by the hop. */
public final class PullTest {
    private static final Checks checks = new Checks();

    public static void main(String[] args) {
        checks.sentence("`int pull()` is never refused and never throws, whatever the state.",
                PullTest::neverRefused);
        checks.sentence("It answers the value `ACC[0]` held before the call.",
                PullTest::answersTheFirstCell);
        checks.sentence("It moves `ACC[4..15]` down to `ACC[0..11]`. After the call, `ACC[j]` equals the old "
                + "`ACC[j + 4]` for j = 0..11.", PullTest::movesTwelveCells);
        checks.sentence("It sets `ACC[12..15]` to 0.", PullTest::lastFourBecomeZero);
        checks.sentence("It lowers PENDING by one if PENDING was above 0.", PullTest::lowersPending);
        checks.sentence("If PENDING was 0 it stays 0.", PullTest::pendingStaysZero);
        checks.sentence("The old values of `ACC[1]`, `ACC[2]` and `ACC[3]` are discarded by the shift "
                + "and are not answered.", PullTest::threeCellsAreDiscarded);
        checks.sentence("With PENDING 0 it still shifts; this is what flushes a frame's tail.",
                PullTest::shiftsWithNothingPending);
        checks.sentence("When ACC is all zero, `pull()` answers 0 and ACC stays all zero.",
                PullTest::allZeroStaysAllZero);
        checks.sentence("Example: fresh state, then `addFrame(-1)`, then `pull()`. The pull answers -1.",
                PullTest::exampleOfTheDocument);
        checks.end();
    }

    private static void neverRefused() {
        for (String run : Runs.upTo(5)) {
            OverlapAdd x = Runs.after(run);
            int[] old = Checks.cellsOf(x);
            // Four pulls empty sixteen cells, and some more go on in the empty state.
            for (int n = 0; n < 6; n++) {
                int due = 4 * n < old.length ? old[4 * n] : 0;
                checks.equal("pull " + (n + 1) + " after " + run, x.pull(), due);
            }
        }
        OverlapAdd x = Runs.after("mom");
        for (int n = 0; n < 100000; n++) {
            x.pull();
        }
        checks.equal("addFrame(-1) after very many pulls", x.addFrame(-1), 1);
        checks.state("after very many pulls and a frame", x, 1, -1, -2, -3, -4, -4, -3, -2, -1);
    }

    private static void answersTheFirstCell() {
        for (int seed : Frame.edgeSeeds()) {
            OverlapAdd x = new OverlapAdd();
            x.addFrame(seed);
            checks.equal("pull() after addFrame(" + seed + ")", x.pull(), Frame.product(seed, 0));
            checks.equal("second pull() after addFrame(" + seed + ")", x.pull(), Frame.product(seed, 4));
        }
        OverlapAdd low = new OverlapAdd();
        low.addFrame(0x80000);
        low.addFrame(0x8000);
        low.pull();
        checks.equal("pull() of the lowest sum", low.pull(), -163840);
        OverlapAdd high = new OverlapAdd();
        high.addFrame(0x7fff0);
        high.addFrame(0x7fff);
        high.pull();
        checks.equal("pull() of the highest sum", high.pull(), 163835);
    }

    private static void movesTwelveCells() {
        for (String run : Runs.upTo(5)) {
            OverlapAdd x = Runs.after(run);
            int[] old = Checks.cellsOf(x);
            x.pull();
            for (int j = 0; j <= 11; j++) {
                checks.equal("pull after " + run + ": at(" + j + ")", x.at(j), old[j + 4]);
            }
        }
    }

    private static void lastFourBecomeZero() {
        OverlapAdd x = Runs.after("zzm");
        for (int i = 12; i <= 15; i++) {
            checks.isTrue("full: at(" + i + ") is not 0", x.at(i) != 0);
        }
        x.pull();
        for (int i = 12; i <= 15; i++) {
            checks.equal("after the pull: at(" + i + ")", x.at(i), 0);
        }
        x.addFrame(-1);
        x.pull();
        for (int i = 12; i <= 15; i++) {
            checks.equal("after a frame and a pull more: at(" + i + ")", x.at(i), 0);
        }
    }

    private static void lowersPending() {
        OverlapAdd x = Runs.after("mom");
        for (int due = 2; due >= 0; due--) {
            x.pull();
            checks.equal("pending()", x.pending(), due);
        }
        for (String run : Runs.upTo(5)) {
            OverlapAdd y = Runs.after(run);
            int before = y.pending();
            y.pull();
            if (before > 0) {
                checks.equal("pull after " + run + ": pending()", y.pending(), before - 1);
            }
        }
    }

    private static void pendingStaysZero() {
        for (String run : new String[] {"", "p", "zp", "mp", "mopp", "mommppp"}) {
            OverlapAdd x = Runs.after(run);
            for (int n = 1; n <= 10; n++) {
                x.pull();
                checks.equal("pull " + n + " after " + run + ": pending()", x.pending(), 0);
            }
            checks.equal("the next frame is the first: addFrame(1)", x.addFrame(1), 1);
            checks.equal("and lies at the start: at(0)", x.at(0), 1);
        }
    }

    private static void threeCellsAreDiscarded() {
        OverlapAdd noTail = new OverlapAdd();
        noTail.addFrame(14);
        checks.cells("before", noTail, 14, 14, 9, 4);
        checks.equal("pull()", noTail.pull(), 14);
        checks.state("nothing is left", noTail, 0);
        for (int n = 1; n <= 4; n++) {
            checks.equal("pull() " + n + " after it", noTail.pull(), 0);
        }
        OverlapAdd zeroFirst = new OverlapAdd();
        zeroFirst.addFrame(0x70000);
        checks.equal("before: at(1)", zeroFirst.at(1), 2 * -32768);
        checks.equal("before: at(2)", zeroFirst.at(2), 3 * -16384);
        checks.equal("before: at(3)", zeroFirst.at(3), 4 * -8192);
        checks.equal("the first cell is 0: pull()", zeroFirst.pull(), 0);
        checks.state("the tail alone is left", zeroFirst, 0, 4 * 28672, 3 * 14336, 2 * 7168, 3584);

        OverlapAdd full = Runs.after("nnn");
        int[] due = {-1, -5, -5, -4, 0};
        for (int n = 0; n < due.length; n++) {
            checks.equal("three frames: pull() " + (n + 1), full.pull(), due[n]);
        }
    }

    private static void shiftsWithNothingPending() {
        OverlapAdd x = new OverlapAdd();
        x.addFrame(0x8000);
        checks.equal("pull() of the head", x.pull(), -32768);
        checks.state("the tail, nothing pending", x, 0, 4 * 2048, 3 * 1024, 2 * 512, 256);
        checks.equal("pull() of the tail", x.pull(), 8192);
        checks.state("flushed", x, 0);

        OverlapAdd y = Runs.after("nnnppp");
        checks.state("tail of three frames", y, 0, -4, -3, -2, -1);
        checks.equal("pull() of that tail", y.pull(), -4);
        checks.state("flushed too", y, 0);
    }

    private static void allZeroStaysAllZero() {
        for (int frames = 0; frames <= 3; frames++) {
            OverlapAdd x = Runs.after("z".repeat(frames));
            for (int n = 1; n <= 5; n++) {
                checks.equal(frames + " zero frames: pull() " + n, x.pull(), 0);
                checks.state(frames + " zero frames, after pull " + n, x, Math.max(0, frames - n));
            }
        }
        OverlapAdd emptied = Runs.after("mommpppp");
        checks.equal("emptied: pull()", emptied.pull(), 0);
        checks.state("emptied, after the pull", emptied, 0);
    }

    private static void exampleOfTheDocument() {
        OverlapAdd x = new OverlapAdd();
        x.addFrame(-1);
        checks.equal("first pull()", x.pull(), -1);
        checks.state("after the first pull", x, 0, -4, -3, -2, -1);
        checks.equal("second pull()", x.pull(), -4);
        checks.state("after the second pull", x, 0);
    }
}
