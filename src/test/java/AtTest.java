/** Promise 5: at reads one cell. */
public final class AtTest {
    private static final int[] FULL = {-1, -2, -3, -4, -5, -5, -5, -5, -5, -5, -5, -5, -4, -3, -2, -1};
    private static final int[] EDGES = {Integer.MIN_VALUE, Integer.MIN_VALUE + 1, -65536, -256, -17, -16, -15, -1,
        0, 1, 14, 15, 16, 17, 31, 32, 255, 256, 65536, 65551, Integer.MAX_VALUE - 1, Integer.MAX_VALUE};

    private static final Checks checks = new Checks();

    public static void main(String[] args) {
        checks.sentence("`int at(int i)` accepts every `int` value of `i`.", AtTest::acceptsEveryIndex);
        checks.sentence("For i in 0..15 it answers the current `ACC[i]`.", AtTest::insideAnswersTheCell);
        checks.sentence("For every other i it answers 0.", AtTest::nextToTheCellsIsZero);
        checks.sentence("This covers negative values", AtTest::negativeIndicesAnswerZero);
        checks.sentence("16 and above", AtTest::sixteenAndAboveAnswerZero);
        checks.sentence("`Integer.MIN_VALUE`", () -> zeroInEveryState(Integer.MIN_VALUE));
        checks.sentence("and `Integer.MAX_VALUE`", () -> zeroInEveryState(Integer.MAX_VALUE));
        checks.sentence("It never throws and changes no state.", AtTest::changesNoState);
        checks.sentence("Neither ACC nor PENDING is affected by any call to `at`.",
                AtTest::noCallAffectsCellsOrCount);
        checks.end();
    }

    private static void acceptsEveryIndex() {
        OverlapAdd x = Runs.after("nnn");
        int i = Integer.MIN_VALUE;
        do {
            int answer = x.at(i);
            int due = i >= 0 && i <= 15 ? FULL[i] : 0;
            if (answer != due) {
                checks.equal("at(" + i + ")", answer, due);
                // One wrong answer is enough: there could be four thousand million.
                return;
            }
        } while (i++ != Integer.MAX_VALUE);
    }

    private static void insideAnswersTheCell() {
        OverlapAdd x = Runs.after("nnn");
        for (int i = 0; i <= 15; i++) {
            checks.equal("at(" + i + ")", x.at(i), FULL[i]);
            checks.equal("at(" + i + ") again", x.at(i), FULL[i]);
        }
        x.pull();
        for (int i = 0; i <= 15; i++) {
            checks.equal("after a pull: at(" + i + ")", x.at(i), i < 12 ? FULL[i + 4] : 0);
        }
        x.addFrame(-1);
        for (int i = 0; i <= 15; i++) {
            checks.equal("after a frame more: at(" + i + ")", x.at(i), i < 4 ? -5 : FULL[i]);
        }
    }

    private static void nextToTheCellsIsZero() {
        zeroInEveryState(-1);
        zeroInEveryState(16);
        OverlapAdd x = Runs.after("nnn");
        checks.equal("the first cell: at(0)", x.at(0), -1);
        checks.equal("the last cell: at(15)", x.at(15), -1);
    }

    private static void negativeIndicesAnswerZero() {
        OverlapAdd x = Runs.after("mom");
        for (int i = -1; i >= -100000; i--) {
            checks.equal("at(" + i + ")", x.at(i), 0);
        }
        // An index cut to fewer bits, or turned round, would come back to the cells.
        for (int bit = 4; bit < 32; bit++) {
            for (int i = 0; i <= 15; i++) {
                int index = (-1 << bit) + i;
                checks.equal("at(" + index + ")", x.at(index), 0);
            }
        }
    }

    private static void sixteenAndAboveAnswerZero() {
        OverlapAdd x = Runs.after("mom");
        for (int i = 16; i <= 100000; i++) {
            checks.equal("at(" + i + ")", x.at(i), 0);
        }
        for (int bit = 4; bit < 31; bit++) {
            for (int i = 0; i <= 15; i++) {
                int index = (1 << bit) + i;
                checks.equal("at(" + index + ")", x.at(index), 0);
            }
        }
    }

    private static void zeroInEveryState(int i) {
        for (String run : Runs.upTo(5)) {
            checks.equal("after " + run + ": at(" + i + ")", Runs.after(run).at(i), 0);
        }
    }

    private static void changesNoState() {
        for (String run : Runs.upTo(5)) {
            OverlapAdd x = Runs.after(run);
            for (int i : EDGES) {
                x.at(i);
            }
            checks.alike("read after " + run, x, Runs.after(run));
        }
    }

    private static void noCallAffectsCellsOrCount() {
        for (String run : new String[] {"", "m", "mo", "mom", "mp", "mommp", "zzz"}) {
            for (int i : EDGES) {
                OverlapAdd x = Runs.after(run);
                OverlapAdd unread = Runs.after(run);
                x.at(i);
                checks.equal("at(" + i + ") after " + run + ", then pending()", x.pending(), unread.pending());
                checks.alike("at(" + i + ") after " + run, x, unread);
            }
        }
    }
}
