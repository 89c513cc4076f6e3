import java.lang.reflect.Constructor;

/** Promise 1: construction and starting state. */
public final class ConstructionTest {
    private static final Checks checks = new Checks();

    public static void main(String[] args) {
        checks.sentence("`new OverlapAdd()` takes no arguments and never throws.",
                ConstructionTest::constructorTakesNothingAndNeverThrows);
        checks.sentence("every cell `ACC[0]` to `ACC[15]` is 0",
                ConstructionTest::everyCellIsZero);
        checks.sentence("so `at(i)` answers 0 for every `int` i",
                ConstructionTest::everyIndexAnswersZero);
        checks.sentence("PENDING is 0, so `pending()` answers 0.",
                ConstructionTest::pendingIsZero);
        checks.sentence("Separate instances share no state.",
                ConstructionTest::newObjectBesideUsedOnesIsEmpty);
        checks.sentence("Calls on one never affect another.",
                ConstructionTest::callsOnOneLeaveTheOther);
        checks.end();
    }

    private static void constructorTakesNothingAndNeverThrows() {
        Constructor<?>[] constructors = OverlapAdd.class.getDeclaredConstructors();
        checks.equal("number of constructors", constructors.length, 1);
        checks.equal("number of arguments", constructors[0].getParameterCount(), 0);
        checks.equal("number of exceptions told", constructors[0].getExceptionTypes().length, 0);
        for (int n = 0; n < 10000; n++) {
            checks.equal("object " + n + ": pending()", new OverlapAdd().pending(), 0);
        }
    }

    private static void everyCellIsZero() {
        checks.cells("new", new OverlapAdd());
    }

    private static void everyIndexAnswersZero() {
        OverlapAdd x = new OverlapAdd();
        int i = Integer.MIN_VALUE;
        do {
            int answer = x.at(i);
            if (answer != 0) {
                checks.equal("new: at(" + i + ")", answer, 0);
                // One wrong answer is enough: there could be four thousand million.
                return;
            }
        } while (i++ != Integer.MAX_VALUE);
    }

    private static void pendingIsZero() {
        checks.equal("new: pending()", new OverlapAdd().pending(), 0);
    }

    private static void newObjectBesideUsedOnesIsEmpty() {
        for (String run : Runs.upTo(4)) {
            OverlapAdd used = Runs.after(run);
            int usedPending = used.pending();
            int[] usedCells = Checks.cellsOf(used);
            checks.state("new beside one after " + run, new OverlapAdd(), 0);
            checks.state("one after " + run + " beside a new one", used, usedPending, usedCells);
        }
    }

    private static void callsOnOneLeaveTheOther() {
        int[] twoFrames = {-1, -2, -3, -4, -5, -5, -5, -5, -4, -3, -2, -1};
        OverlapAdd a = new OverlapAdd();
        OverlapAdd b = new OverlapAdd();
        a.addFrame(-1);
        a.addFrame(-1);
        checks.state("b after frames on a", b, 0);
        b.addFrame(1);
        checks.state("a after a frame on b", a, 2, twoFrames);
        b.pull();
        b.pull();
        checks.state("a after pulls on b", a, 2, twoFrames);
        b.addFrame(1);
        b.addFrame(1);
        b.addFrame(1);
        checks.equal("b is full: addFrame(1)", b.addFrame(1), -1);
        checks.equal("a is not full: addFrame(0)", a.addFrame(0), 3);
        a.pull();
        checks.state("b after a pull on a", b, 3, 1, 0, 0, 0, 1, 0, 0, 0, 1);
    }
}
