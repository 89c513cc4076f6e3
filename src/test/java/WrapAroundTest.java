import java.lang.reflect.Field;
import java.lang.reflect.Modifier;

/**
 * Promise 2: the sums. At most two frames meet in a cell, so calls alone bring no sum beyond
 * -163840..163835. The ends of that range are reached by calls; for the wrap-around the cells
 * are filled from outside, which ties this one test to how the program keeps them.
 */
public final class WrapAroundTest {
    private static final Checks checks = new Checks();

    public static void main(String[] args) {
        checks.sentence("Each addition is ordinary Java `int` addition", WrapAroundTest::greatestSums);
        checks.sentence("and wraps around on overflow exactly as Java `int` arithmetic does. (upwards)",
                () -> wrapsInEveryCell(Integer.MAX_VALUE, 0x7fff));
        checks.sentence("and wraps around on overflow exactly as Java `int` arithmetic does. (downwards)",
                () -> wrapsInEveryCell(Integer.MIN_VALUE, 0x8000));
        checks.sentence("and wraps around on overflow exactly as Java `int` arithmetic does. (by one)",
                WrapAroundTest::wrapsByOne);
        checks.end();
    }

    private static void greatestSums() {
        for (int k = 0; k < 4; k++) {
            for (String run : new String[] {"", "z"}) {
                meetingFrames(run, "", k);
            }
            meetingFrames("", "p", k);
        }
    }

    /** Cell k of the later frame lies on cell k + 4 of the earlier one, and their weights make 5. */
    private static void meetingFrames(String before, String between, int k) {
        checks.equal("lowest sum, k = " + k, meeting(before, between, 0x8000 << k + 4, 0x8000 << k, k), -163840);
        checks.equal("highest sum, k = " + k, meeting(before, between, 0x7fff << k + 4, 0x7fff << k, k), 163835);
    }

    private static int meeting(String before, String between, int earlier, int later, int k) {
        OverlapAdd x = Runs.after(before);
        x.addFrame(earlier);
        if (between.equals("p")) {
            x.pull();
        }
        int start = 4 * x.pending();
        x.addFrame(later);
        return x.at(start + k);
    }

    private static void wrapsInEveryCell(int held, int sample) {
        for (int before = 0; before <= 2; before++) {
            for (int k = 0; k < Frame.LENGTH; k++) {
                int i = 4 * before + k;
                OverlapAdd x = Runs.after("z".repeat(before));
                hold(x, i, held);
                int[] due = Frame.addedTo(Checks.cellsOf(x), before, sample << k);
                checks.equal("addFrame", x.addFrame(sample << k), before + 1);
                checks.isTrue("the sum goes over the end of int", (due[i] < 0) != (held < 0));
                checks.state("cell " + i + " held " + held, x, before + 1, due);
            }
        }
    }

    private static void wrapsByOne() {
        OverlapAdd up = new OverlapAdd();
        hold(up, 0, Integer.MAX_VALUE);
        up.addFrame(1);
        checks.equal("one above the highest: at(0)", up.at(0), Integer.MIN_VALUE);
        checks.equal("one above the highest: pull()", up.pull(), Integer.MIN_VALUE);

        OverlapAdd down = new OverlapAdd();
        hold(down, 0, Integer.MIN_VALUE);
        down.addFrame(-1);
        checks.equal("one below the lowest: at(0)", down.at(0), Integer.MAX_VALUE);
        checks.equal("one below the lowest: pull()", down.pull(), Integer.MAX_VALUE);
    }

    private static void hold(OverlapAdd x, int i, int value) {
        try {
            Field field = cellsField();
            field.setAccessible(true);
            ((int[]) field.get(x))[i] = value;
        } catch (IllegalAccessException e) {
            throw new IllegalStateException(e);
        }
        if (x.at(i) != value) {
            throw new IllegalStateException("the cells are kept in another way: fit this test to it");
        }
    }

    private static Field cellsField() {
        for (Field field : OverlapAdd.class.getDeclaredFields()) {
            if (field.getType() == int[].class && !Modifier.isStatic(field.getModifiers())) {
                return field;
            }
        }
        throw new IllegalStateException("no array of int holds the cells: fit this test to how they are kept");
    }
}
