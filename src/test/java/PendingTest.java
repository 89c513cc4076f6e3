/** Promise 4: pending reports the frame count. */
public final class PendingTest {
    private static final Checks checks = new Checks();

    public static void main(String[] args) {
        OverlapAdd x = new OverlapAdd();
        asking(x, "new", 0);
        for (int n = 1; n <= 3; n++) {
            x.addFrame(12345 * n);
            asking(x, "after frame " + n, n);
        }
        x.addFrame(7);
        asking(x, "after a refused frame", 3);
        for (int n = 1; n <= 3; n++) {
            x.pull();
            asking(x, "after pull " + n, 3 - n);
        }
        x.pull();
        asking(x, "after a pull with nothing pending", 0);
        x.addFrame(0);
        asking(x, "after a zero frame", 1);
        checks.end();
    }

    private static void asking(OverlapAdd x, String when, int due) {
        int[] before = Checks.cells(x);
        for (int n = 0; n < 10; n++) {
            checks.equal(when + ": pending()", x.pending(), due);
        }
        checks.state(when + ", after asking", x, due, before);
    }
}
