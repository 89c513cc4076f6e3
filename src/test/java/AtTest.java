/** Promise 5: at reads one cell. */
public final class AtTest {
    private static final int[] FULL = {-1, -2, -3, -4, -5, -5, -5, -5, -5, -5, -5, -5, -4, -3, -2, -1};
    private static final Checks checks = new Checks();

    public static void main(String[] args) {
        OverlapAdd x = new OverlapAdd();
        x.addFrame(-1);
        x.addFrame(-1);
        x.addFrame(-1);
        insideAnswersTheCell(x);
        outsideAnswersZero(x);
        checks.state("after all readings", x, 3, FULL);
        checks.equal("pull() after all readings", x.pull(), -1);
        outsideAnswersZero(x);
        checks.state("after the pull", x, 2, java.util.Arrays.copyOfRange(FULL, 4, 16));
        checks.end();
    }

    private static void insideAnswersTheCell(OverlapAdd x) {
        for (int i = 0; i < Checks.CELLS; i++) {
            checks.equal("at(" + i + ")", x.at(i), FULL[i]);
            checks.equal("at(" + i + ") again", x.at(i), FULL[i]);
        }
    }

    private static void outsideAnswersZero(OverlapAdd x) {
        for (int i = 1; i <= 1000; i++) {
            zeroAt(x, -i);
            zeroAt(x, 15 + i);
        }
        // Powers of two and their neighbours would come back inside if an index were cut or masked.
        for (int bit = 5; bit < 32; bit++) {
            for (int i = 0; i < Checks.CELLS; i++) {
                zeroAt(x, (1 << bit) + i);
                zeroAt(x, -(1 << bit) + i);
            }
        }
        zeroAt(x, Integer.MIN_VALUE);
        zeroAt(x, Integer.MAX_VALUE);
    }

    private static void zeroAt(OverlapAdd x, int i) {
        checks.equal("at(" + i + ")", x.at(i), 0);
    }
}
