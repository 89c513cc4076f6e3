import java.util.Arrays;

/** Every run of at most seven calls, against a model that keeps the frames themselves and has no cells. */
public final class EveryRunTest {
    private static final Checks checks = new Checks();

    private static final int LONGEST = 7;

    private static final int[] SEEDS = {0, -1, Integer.MIN_VALUE, Integer.MAX_VALUE, 0x7fff, 0x8000, Runs.MIXED};

    /** A smaller number is the frame of the seed with that index. */
    private static final int PULL = SEEDS.length;

    public static void main(String[] args) {
        checks.sentence("Everything observable through `addFrame`, `pull`, `pending` and `at` is fixed "
                + "by the promises above.", EveryRunTest::everyRun);
        checks.end();
    }

    private static void everyRun() {
        for (int length = 0; length <= LONGEST; length++) {
            int[] calls = new int[length];
            do {
                run(calls);
            } while (next(calls));
        }
    }

    /** Counts the calls on like the digits of a number; false after the last run. */
    private static boolean next(int[] calls) {
        for (int n = 0; n < calls.length; n++) {
            if (calls[n] < PULL) {
                calls[n]++;
                return true;
            }
            calls[n] = 0;
        }
        return false;
    }

    private static void run(int[] calls) {
        OverlapAdd x = new OverlapAdd();
        Model model = new Model();
        boolean asDue = true;
        for (int call : calls) {
            asDue &= call == PULL ? x.pull() == model.pull() : x.addFrame(SEEDS[call]) == model.addFrame(SEEDS[call]);
        }
        // A shorter run is a run of its own, so the state is looked at after the last call alone.
        asDue &= x.pending() == model.pending;
        for (int i = 0; i < Checks.CELLS; i++) {
            asDue &= x.at(i) == model.cell(i);
        }
        // The text is made for a wrong run alone: there are two million runs.
        if (!asDue) {
            checks.isTrue("every answer as due in the run " + text(calls), false);
        }
    }

    private static String text(int[] calls) {
        String[] texts = new String[calls.length];
        for (int n = 0; n < calls.length; n++) {
            texts[n] = calls[n] == PULL ? "pull()" : "addFrame(" + SEEDS[calls[n]] + ")";
        }
        return Arrays.toString(texts);
    }

    /** A frame is never taken away: a pull only moves its start, below 0 in the end. */
    private static final class Model {
        private final int[] starts = new int[LONGEST];
        private final int[] seeds = new int[LONGEST];
        private int frames = 0;
        private int pending = 0;

        int addFrame(int seed) {
            if (pending == 3) {
                return -1;
            }
            starts[frames] = 4 * pending;
            seeds[frames] = seed;
            frames++;
            pending++;
            return pending;
        }

        int pull() {
            int answer = cell(0);
            for (int f = 0; f < frames; f++) {
                starts[f] -= 4;
            }
            pending = Math.max(0, pending - 1);
            return answer;
        }

        int cell(int i) {
            int sum = 0;
            for (int f = 0; f < frames; f++) {
                int k = i - starts[f];
                if (k >= 0 && k < Frame.LENGTH) {
                    sum += Frame.product(seeds[f], k);
                }
            }
            return sum;
        }
    }
}
