/** Promise 2: addFrame adds one weighted frame. */
public final class AddFrameTest {
    private static final Checks checks = new Checks();

    public static void main(String[] args) {
        seedOne();
        seedMinusOne();
        seedZero();
        fourthFrameIsRefused();
        refusalAfterMixedSeedsChangesNothing();
        roomAgainAfterPull();
        touchedCellsFollowPending();
        extremeSeeds();
        samplesAreSignedShorts();
        everySingleBit();
        zeroProductsKeepCells();
        frameAddsOnTopOfTail();
        overlapGoesBeyondShort();
        checks.end();
    }

    private static void seedOne() {
        OverlapAdd x = new OverlapAdd();
        checks.equal("addFrame(1)", x.addFrame(1), 1);
        checks.state("after addFrame(1)", x, 1, 1);
    }

    private static void seedMinusOne() {
        OverlapAdd x = new OverlapAdd();
        checks.equal("addFrame(-1)", x.addFrame(-1), 1);
        checks.state("after addFrame(-1)", x, 1, -1, -2, -3, -4, -4, -3, -2, -1);
    }

    private static void seedZero() {
        OverlapAdd x = new OverlapAdd();
        checks.equal("addFrame(0)", x.addFrame(0), 1);
        checks.state("after addFrame(0)", x, 1);
    }

    private static void fourthFrameIsRefused() {
        OverlapAdd x = new OverlapAdd();
        for (int n = 1; n <= 3; n++) {
            checks.equal("frame " + n, x.addFrame(-1), n);
        }
        int[] full = {-1, -2, -3, -4, -5, -5, -5, -5, -5, -5, -5, -5, -4, -3, -2, -1};
        checks.state("full", x, 3, full);
        int[] seeds = {-1, 0, 1, 12345, Integer.MIN_VALUE, Integer.MAX_VALUE};
        for (int seed : seeds) {
            checks.equal("full: addFrame(" + seed + ")", x.addFrame(seed), -1);
            checks.state("full, after addFrame(" + seed + ")", x, 3, full);
        }
    }

    private static void refusalAfterMixedSeedsChangesNothing() {
        OverlapAdd x = new OverlapAdd();
        x.addFrame(1000);
        x.addFrame(-70000);
        x.addFrame(Integer.MAX_VALUE);
        int[] full = Checks.cells(x);
        for (int n = 0; n < 10; n++) {
            checks.equal("full: addFrame(77)", x.addFrame(77), -1);
        }
        checks.state("full with mixed seeds", x, 3, full);
    }

    private static void roomAgainAfterPull() {
        OverlapAdd x = new OverlapAdd();
        x.addFrame(0);
        x.addFrame(0);
        x.addFrame(0);
        checks.equal("full: addFrame(1)", x.addFrame(1), -1);
        x.pull();
        checks.equal("after a pull: addFrame(1)", x.addFrame(1), 3);
        checks.state("full again", x, 3, 0, 0, 0, 0, 0, 0, 0, 0, 1);
        checks.equal("full again: addFrame(1)", x.addFrame(1), -1);
    }

    private static void touchedCellsFollowPending() {
        for (int before = 0; before <= 2; before++) {
            OverlapAdd x = new OverlapAdd();
            for (int n = 0; n < before; n++) {
                x.addFrame(0);
            }
            checks.equal("addFrame(-1) as frame " + (before + 1), x.addFrame(-1), before + 1);
            int[] due = new int[Checks.CELLS];
            int[] frame = {-1, -2, -3, -4, -4, -3, -2, -1};
            System.arraycopy(frame, 0, due, 4 * before, frame.length);
            checks.state("after frame " + (before + 1), x, before + 1, due);
        }
    }

    private static void extremeSeeds() {
        // With k at most 7 no bit above 22 comes into the low 16, so the sign bit must not show.
        OverlapAdd x = new OverlapAdd();
        x.addFrame(Integer.MIN_VALUE);
        checks.state("after addFrame(MIN_VALUE)", x, 1);

        OverlapAdd y = new OverlapAdd();
        y.addFrame(Integer.MAX_VALUE);
        checks.state("after addFrame(MAX_VALUE)", y, 1, -1, -2, -3, -4, -4, -3, -2, -1);
    }

    private static void samplesAreSignedShorts() {
        OverlapAdd x = new OverlapAdd();
        x.addFrame(0x8000);
        checks.state("after addFrame(0x8000)", x, 1,
                -32768, 2 * 16384, 3 * 8192, 4 * 4096, 4 * 2048, 3 * 1024, 2 * 512, 256);

        OverlapAdd y = new OverlapAdd();
        y.addFrame(0x7fff);
        checks.state("after addFrame(0x7fff)", y, 1,
                32767, 2 * 16383, 3 * 8191, 4 * 4095, 4 * 2047, 3 * 1023, 2 * 511, 255);

        OverlapAdd z = new OverlapAdd();
        z.addFrame(0x10000);
        checks.state("after addFrame(0x10000)", z, 1,
                0, 2 * -32768, 3 * 16384, 4 * 8192, 4 * 4096, 3 * 2048, 2 * 1024, 512);

        OverlapAdd top = new OverlapAdd();
        top.addFrame(0x400000);
        checks.state("after addFrame(0x400000)", top, 1, 0, 0, 0, 0, 0, 0, 0, -32768);

        OverlapAdd above = new OverlapAdd();
        above.addFrame(0xff800000);
        checks.state("after addFrame(0xff800000)", above, 1);
    }

    private static void everySingleBit() {
        int[] weights = {1, 2, 3, 4, 4, 3, 2, 1};
        for (int bit = 0; bit < 32; bit++) {
            OverlapAdd x = new OverlapAdd();
            x.addFrame(1 << bit);
            int[] due = new int[Checks.CELLS];
            for (int k = 0; k < 8; k++) {
                int place = bit - k;
                int sample = 0;
                if (place >= 0 && place < 15) {
                    sample = 1 << place;
                } else if (place == 15) {
                    sample = -32768;
                }
                due[k] = weights[k] * sample;
            }
            checks.state("after addFrame(1 << " + bit + ")", x, 1, due);
        }
    }

    private static void zeroProductsKeepCells() {
        OverlapAdd x = new OverlapAdd();
        x.addFrame(-1);
        x.addFrame(0);
        checks.state("after a zero frame on a full one", x, 2, -1, -2, -3, -4, -4, -3, -2, -1);

        OverlapAdd y = new OverlapAdd();
        y.addFrame(-1);
        y.addFrame(1);
        checks.state("after addFrame(1) on addFrame(-1)", y, 2, -1, -2, -3, -4, -3, -3, -2, -1);
    }

    private static void frameAddsOnTopOfTail() {
        OverlapAdd x = new OverlapAdd();
        x.addFrame(-1);
        x.pull();
        checks.equal("addFrame(-1) on a tail", x.addFrame(-1), 1);
        checks.state("after addFrame(-1) on a tail", x, 1, -5, -5, -5, -5, -4, -3, -2, -1);
    }

    /** The greatest sums that two overlapping frames can reach in either direction. */
    private static void overlapGoesBeyondShort() {
        OverlapAdd x = new OverlapAdd();
        x.addFrame(0x8000 << 4);
        x.addFrame(0x8000);
        checks.equal("lowest: at(4)", x.at(4), 5 * -32768);

        OverlapAdd y = new OverlapAdd();
        y.addFrame(0x7fff << 4);
        y.addFrame(0x7fff);
        checks.equal("highest: at(4)", y.at(4), 5 * 32767);
    }
}
