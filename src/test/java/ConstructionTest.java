/** Promise 1: the new object, and that instances share no state. */
public final class ConstructionTest {
    private static final Checks checks = new Checks();

    public static void main(String[] args) {
        newObjectIsEmpty();
        newObjectAnswersZeroForIndicesOutside();
        instancesShareNoState();
        laterInstanceStartsEmpty();
        checks.end();
    }

    private static void newObjectIsEmpty() {
        checks.state("new", new OverlapAdd(), 0);
    }

    private static void newObjectAnswersZeroForIndicesOutside() {
        OverlapAdd x = new OverlapAdd();
        int[] outside = {-1, 16, 17, Integer.MIN_VALUE, Integer.MAX_VALUE};
        for (int i : outside) {
            checks.equal("new: at(" + i + ")", x.at(i), 0);
        }
    }

    private static void instancesShareNoState() {
        OverlapAdd a = new OverlapAdd();
        OverlapAdd b = new OverlapAdd();
        a.addFrame(-1);
        a.addFrame(-1);
        checks.state("b after frames on a", b, 0);
        b.addFrame(1);
        checks.state("a after a frame on b", a, 2, -1, -2, -3, -4, -5, -5, -5, -5, -4, -3, -2, -1);
        b.pull();
        b.pull();
        checks.state("a after pulls on b", a, 2, -1, -2, -3, -4, -5, -5, -5, -5, -4, -3, -2, -1);
        a.pull();
        checks.state("b after a pull on a", b, 0);
    }

    private static void laterInstanceStartsEmpty() {
        OverlapAdd used = new OverlapAdd();
        for (int n = 0; n < 4; n++) {
            used.addFrame(-1);
        }
        checks.state("new beside a full one", new OverlapAdd(), 0);
    }
}
