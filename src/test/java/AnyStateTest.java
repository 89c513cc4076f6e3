/** 'What it is': what holds for the whole state, whatever the calls. */
public final class AnyStateTest {
    private static final Checks checks = new Checks();

    public static void main(String[] args) {
        checks.sentence("Nothing here ever throws, for any argument and in any state.",
                AnyStateTest::nothingThrows);
        checks.sentence("sixteen `int` cells, `ACC[0]` to `ACC[15]`, all zero at first.",
                AnyStateTest::sixteenCells);
        checks.sentence("a count in 0..3, 0 at first.", AnyStateTest::countFromZeroToThree);
        checks.sentence("It is added into ACC starting at cell `4 * PENDING`.",
                AnyStateTest::framesStartAtTheHop);
        checks.sentence("Samples are taken out one at a time from `ACC[0]`, and each take-out shifts "
                + "everything down by 4.", AnyStateTest::takeOutsShift);
        checks.end();
    }

    private static void nothingThrows() {
        int[] edges = Frame.edgeSeeds();
        for (String run : Runs.upTo(4)) {
            for (int edge : edges) {
                callEverything(run, edge);
            }
        }
    }

    private static void callEverything(String run, int edge) {
        OverlapAdd x = Runs.after(run);
        boolean cell = edge >= 0 && edge <= 15;
        int old = x.at(edge);
        checks.isTrue("at(" + edge + ") is 0 outside the cells", cell || old == 0);
        int first = x.at(0);
        int before = x.pending();
        checks.equal("pull() after " + run, x.pull(), first);
        int left = Math.max(0, before - 1);
        checks.equal("then pending()", x.pending(), left);
        // After a pull there is always room.
        checks.equal("then addFrame(" + edge + ")", x.addFrame(edge), left + 1);
    }

    private static void sixteenCells() {
        checks.cells("new", new OverlapAdd());
        OverlapAdd x = Runs.after("nnn");
        for (int i = 0; i <= 15; i++) {
            checks.isTrue("full: at(" + i + ") is not 0", x.at(i) != 0);
        }
        checks.equal("full: at(16)", x.at(16), 0);
    }

    private static void countFromZeroToThree() {
        OverlapAdd x = new OverlapAdd();
        checks.equal("new", x.pending(), 0);
        x.pull();
        checks.equal("not below 0", x.pending(), 0);
        for (int n = 1; n <= 3; n++) {
            x.addFrame(1);
            checks.equal("after frame " + n, x.pending(), n);
        }
        x.addFrame(1);
        checks.equal("not above 3", x.pending(), 3);
    }

    private static void framesStartAtTheHop() {
        for (String run : Runs.upTo(5)) {
            OverlapAdd x = Runs.after(run);
            int before = x.pending();
            if (before < 3) {
                int[] old = Checks.cellsOf(x);
                x.addFrame(1);
                old[4 * before]++;
                checks.cells("addFrame(1) after " + run, x, old);
            }
        }
    }

    private static void takeOutsShift() {
        OverlapAdd x = Runs.after("mom");
        int[] old = Checks.cellsOf(x);
        for (int n = 1; n <= 4; n++) {
            checks.equal("take-out " + n, x.pull(), old[4 * (n - 1)]);
            for (int i = 0; i <= 15; i++) {
                int due = i + 4 * n <= 15 ? old[i + 4 * n] : 0;
                checks.equal("after take-out " + n + ": at(" + i + ")", x.at(i), due);
            }
        }
    }
}
