import java.util.Arrays;

/** Long runs of mixed calls against a second reading of the document, written another way. */
public final class ModelTest {
    private static final Checks checks = new Checks();

    private static final int RUNS = 200;
    private static final int CALLS = 500;

    private static final int[] SEEDS = Frame.edgeSeeds();

    private static long state = 20261115L;

    public static void main(String[] args) {
        checks.sentence("Everything observable through `addFrame`, `pull`, `pending` and `at` is fixed "
                + "by the promises above.", ModelTest::mixedRuns);
        checks.end();
    }

    private static void mixedRuns() {
        for (int run = 0; run < RUNS; run++) {
            // Some runs mostly add and some mostly pull, so that both ends are reached often.
            mixedRun(run, 10 + run % 80);
        }
    }

    private static void mixedRun(int run, int addsInHundred) {
        OverlapAdd x = new OverlapAdd();
        Model model = new Model();
        for (int n = 0; n < CALLS; n++) {
            String when = "run " + run + ", call " + n;
            if (next(100) < addsInHundred) {
                int seed = nextSeed();
                checks.equal(when + ": addFrame(" + seed + ")", x.addFrame(seed), model.addFrame(seed));
            } else {
                checks.equal(when + ": pull()", x.pull(), model.pull());
            }
            checks.state(when, x, model.pending, model.cells());
        }
    }

    private static int nextSeed() {
        return next(3) == 0 ? SEEDS[next(SEEDS.length)] : nextInt();
    }

    private static int next(int bound) {
        return (nextInt() >>> 1) % bound;
    }

    /** A fixed sequence, so that every run of the test is the same. */
    private static int nextInt() {
        state = state * 6364136223846793005L + 1442695040888963407L;
        return (int) (state >>> 32);
    }

    /** Never shifts: the whole output lies in one long line, and a pull moves the reading place. */
    private static final class Model {
        private final int[] line = new int[4 * CALLS + 16];
        private int place = 0;
        private int pending = 0;

        int addFrame(int seed) {
            if (pending == 3) {
                return -1;
            }
            for (int k = 0; k < Frame.LENGTH; k++) {
                line[place + 4 * pending + k] += Frame.product(seed, k);
            }
            pending = pending + 1;
            return pending;
        }

        int pull() {
            int answer = line[place];
            place = place + 4;
            pending = Math.max(0, pending - 1);
            return answer;
        }

        int[] cells() {
            return Arrays.copyOfRange(line, place, place + 16);
        }
    }
}
