import java.util.Arrays;

/** Promise 2, with room left: where a frame goes, and what is answered. */
public final class AddFrameTest {
    private static final int[] NEGATIVE_FRAME = {-1, -2, -3, -4, -4, -3, -2, -1};

    private static final Checks checks = new Checks();

    public static void main(String[] args) {
        checks.sentence("For each k = 0..7 it adds the product `w(k) * x(k)` to `ACC[4 * PENDING + k]`.",
                AddFrameTest::productsGoToTheirCells);
        checks.sentence("Here PENDING is the value before the call.",
                AddFrameTest::countBeforeTheCallTellsThePlace);
        checks.sentence("It raises PENDING by one.",
                AddFrameTest::pendingRisesByOne);
        checks.sentence("It answers the new PENDING, which is 1, 2 or 3.",
                AddFrameTest::answersTheNewCount);
        checks.sentence("| 0 | `ACC[0..7]` |", () -> touchesEightCells(0, 0, 7));
        checks.sentence("| 1 | `ACC[4..11]` |", () -> touchesEightCells(1, 4, 11));
        checks.sentence("| 2 | `ACC[8..15]` |", () -> touchesEightCells(2, 8, 15));
        checks.sentence("Cells outside the touched range of eight are not changed.",
                AddFrameTest::cellsOutsideStay);
        checks.sentence("The frame is added on top of whatever the touched cells already hold; "
                + "it does not overwrite them.", AddFrameTest::frameAddsOnTop);
        checks.sentence("A cell whose product is 0 (because `x(k)` is 0) keeps its value.",
                AddFrameTest::zeroProductsKeepCells);
        checks.sentence("`addFrame(1)` answers 1. Only `x(0)` is nonzero (it is 1), so `ACC[0]` becomes 1 "
                + "and all other cells stay 0.", () -> firstFrame(1, 1));
        checks.sentence("`addFrame(-1)` answers 1. Every `x(k)` is -1, so `ACC[0..7]` become "
                + "-1, -2, -3, -4, -4, -3, -2, -1.", () -> firstFrame(-1, NEGATIVE_FRAME));
        checks.sentence("`addFrame(0)` answers 1. ACC is unchanged, but PENDING still rises to 1.",
                () -> firstFrame(0));
        checks.sentence("Three calls in a row answer 1, 2, 3. A fourth call answers -1 and changes nothing.",
                AddFrameTest::fourCallsInARow);
        checks.end();
    }

    private static void productsGoToTheirCells() {
        for (String run : Runs.upTo(5)) {
            OverlapAdd x = Runs.after(run);
            int before = x.pending();
            if (before < 3) {
                int[] due = Frame.addedTo(Checks.cellsOf(x), before, Runs.OTHER);
                x.addFrame(Runs.OTHER);
                checks.cells("frame after " + run, x, due);
            }
        }
    }

    private static void countBeforeTheCallTellsThePlace() {
        OverlapAdd x = new OverlapAdd();
        x.addFrame(1);
        checks.cells("first frame", x, 1);
        x.addFrame(1);
        checks.cells("second frame", x, 1, 0, 0, 0, 1);
        x.addFrame(1);
        checks.cells("third frame", x, 1, 0, 0, 0, 1, 0, 0, 0, 1);
        x.pull();
        x.pull();
        x.addFrame(1);
        checks.cells("frame after two pulls", x, 1, 0, 0, 0, 1);
    }

    private static void pendingRisesByOne() {
        for (String run : Runs.upTo(5)) {
            OverlapAdd x = Runs.after(run);
            int before = x.pending();
            if (before < 3) {
                x.addFrame(Runs.MIXED);
                checks.equal("frame after " + run + ": pending()", x.pending(), before + 1);
            }
        }
    }

    private static void answersTheNewCount() {
        OverlapAdd x = new OverlapAdd();
        checks.equal("with 0 pending: addFrame(5)", x.addFrame(5), 1);
        checks.equal("with 1 pending: addFrame(5)", x.addFrame(5), 2);
        checks.equal("with 2 pending: addFrame(5)", x.addFrame(5), 3);
        x.pull();
        checks.equal("with 2 pending again: addFrame(5)", x.addFrame(5), 3);
        x.pull();
        x.pull();
        checks.equal("with 1 pending again: addFrame(5)", x.addFrame(5), 2);
        x.pull();
        x.pull();
        x.pull();
        checks.equal("with 0 pending again: addFrame(5)", x.addFrame(5), 1);
    }

    private static void touchesEightCells(int before, int first, int last) {
        OverlapAdd x = Runs.after("z".repeat(before));
        checks.equal("addFrame(-1)", x.addFrame(-1), before + 1);
        for (int i = 0; i < Checks.CELLS; i++) {
            int due = i >= first && i <= last ? NEGATIVE_FRAME[i - first] : 0;
            checks.equal("at(" + i + ")", x.at(i), due);
        }
    }

    private static void cellsOutsideStay() {
        for (String run : Runs.upTo(5)) {
            for (int seed : new int[] {-1, Runs.MIXED, Integer.MAX_VALUE}) {
                cellsOutsideStay(run, seed);
            }
        }
    }

    private static void cellsOutsideStay(String run, int seed) {
        OverlapAdd x = Runs.after(run);
        int before = x.pending();
        int[] old = Checks.cellsOf(x);
        x.addFrame(seed);
        for (int i = 0; i < Checks.CELLS; i++) {
            boolean touched = before < 3 && i >= 4 * before && i < 4 * before + 8;
            if (!touched) {
                checks.equal("addFrame(" + seed + ") after " + run + ": at(" + i + ")", x.at(i), old[i]);
            }
        }
    }

    private static void frameAddsOnTop() {
        OverlapAdd onTail = Runs.after("np");
        onTail.addFrame(-1);
        checks.state("on a tail", onTail, 1, -5, -5, -5, -5, -4, -3, -2, -1);

        OverlapAdd onOne = Runs.after("n");
        onOne.addFrame(-1);
        checks.state("on one frame", onOne, 2, -1, -2, -3, -4, -5, -5, -5, -5, -4, -3, -2, -1);

        OverlapAdd onTwo = Runs.after("nn");
        onTwo.addFrame(-1);
        checks.state("on two frames", onTwo, 3,
                -1, -2, -3, -4, -5, -5, -5, -5, -5, -5, -5, -5, -4, -3, -2, -1);

        OverlapAdd opposite = new OverlapAdd();
        opposite.addFrame(1 << 4);
        opposite.addFrame(-4);
        checks.state("a sum of 0", opposite, 2, 16, 16, 12, 8, 0, -4, -3, -4, -4, -3, -2, -1);
    }

    private static void zeroProductsKeepCells() {
        for (String run : new String[] {"", "np", "n", "mp", "m", "nn", "mo"}) {
            zeroFrameKeepsAllCells(run, 0);
            // Nothing above bit 22 comes into a sample, so these seeds have zero samples alone too.
            zeroFrameKeepsAllCells(run, 0x800000);
            zeroFrameKeepsAllCells(run, Integer.MIN_VALUE);
        }
        OverlapAdd lastOnly = Runs.after("np");
        lastOnly.addFrame(0x400000);
        checks.state("only x(7) is not 0", lastOnly, 1, -4, -3, -2, -1, 0, 0, 0, -32768);

        OverlapAdd firstOnly = Runs.after("np");
        firstOnly.addFrame(1);
        checks.state("only x(0) is not 0", firstOnly, 1, -3, -3, -2, -1);
    }

    private static void zeroFrameKeepsAllCells(String run, int seed) {
        OverlapAdd x = Runs.after(run);
        int before = x.pending();
        int[] old = Checks.cellsOf(x);
        x.addFrame(seed);
        checks.state("addFrame(" + seed + ") after " + run, x, before + 1, old);
    }

    private static void firstFrame(int seed, int... due) {
        OverlapAdd x = new OverlapAdd();
        checks.equal("addFrame(" + seed + ")", x.addFrame(seed), 1);
        checks.state("after it", x, 1, due);
    }

    private static void fourCallsInARow() {
        OverlapAdd x = new OverlapAdd();
        int[] due = new int[Checks.CELLS];
        for (int n = 1; n <= 3; n++) {
            due = Frame.addedTo(due, n - 1, Runs.MIXED);
            checks.equal("call " + n, x.addFrame(Runs.MIXED), n);
        }
        int[] cells = Checks.cellsOf(x);
        checks.isTrue("three frames are in the cells", Arrays.equals(cells, due));
        checks.equal("call 4", x.addFrame(Runs.MIXED), -1);
        checks.state("after call 4", x, 3, cells);
    }
}
