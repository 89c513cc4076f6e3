import java.util.stream.IntStream;

/** Promise 2: which samples a seed gives, and their weights. */
public final class SampleTest {
    private static final Checks checks = new Checks();

    public static void main(String[] args) {
        checks.sentence("`int addFrame(int seed)` accepts every `int` value of `seed`",
                SampleTest::acceptsEverySeed);
        checks.sentence("including 0", () -> acceptedWherever(0));
        checks.sentence("negative values", SampleTest::acceptsNegativeValues);
        checks.sentence("`Integer.MIN_VALUE`", () -> acceptedWherever(Integer.MIN_VALUE));
        checks.sentence("and `Integer.MAX_VALUE`", () -> acceptedWherever(Integer.MAX_VALUE));
        checks.sentence("`x(k)` is the low 16 bits of `(seed >>> k)`",
                SampleTest::sixteenBitsAndNoMore);
        checks.sentence("read as a signed short.", SampleTest::bitFifteenIsTheSign);
        checks.sentence("It is a value in -32768..32767.", SampleTest::bothEndsOfTheSample);
        checks.sentence("`>>>` is Java's unsigned (zero-filling) right shift.",
                SampleTest::signOfTheSeedNeverShows);
        checks.sentence("The weights are 1, 2, 3, 4, 4, 3, 2, 1.", SampleTest::weights);
        checks.sentence("`w(k) = k + 1` for k < 4 and `w(k) = 8 - k` for k >= 4.",
                SampleTest::weightsOnBothSidesOfTheMiddle);
        checks.end();
    }

    /** All 2^32 of them, each on a new object. */
    private static void acceptsEverySeed() {
        // One wrong answer is enough: there could be four thousand million.
        IntStream.rangeClosed(Integer.MIN_VALUE, Integer.MAX_VALUE).parallel()
                .filter(seed -> !firstFrameAsDue(seed))
                .findAny()
                .ifPresent(seed -> {
                    checks.isTrue("addFrame(" + seed + ") as due on a new object", false);
                    firstFrame(seed, frame(seed));
                });
    }

    private static boolean firstFrameAsDue(int seed) {
        OverlapAdd x = new OverlapAdd();
        boolean asDue = x.addFrame(seed) == 1;
        for (int k = 0; k < Frame.LENGTH; k++) {
            asDue &= x.at(k) == Frame.product(seed, k);
        }
        for (int i = Frame.LENGTH; i < Checks.CELLS; i++) {
            asDue &= x.at(i) == 0;
        }
        return asDue;
    }

    private static void acceptsNegativeValues() {
        for (int bit = 0; bit < 32; bit++) {
            acceptedWherever(-1 << bit);
            acceptedWherever(-(1 << bit) - 1 | Integer.MIN_VALUE);
        }
        acceptedWherever(-123456789);
    }

    /** A seed is accepted as first, second and third frame, and with a tail in the cells. */
    private static void acceptedWherever(int seed) {
        for (String run : new String[] {"", "z", "zz", "m", "mo", "mp", "mop", "momp", "p"}) {
            OverlapAdd x = Runs.after(run);
            int before = x.pending();
            int[] due = Frame.addedTo(Checks.cellsOf(x), before, seed);
            checks.equal("addFrame(" + seed + ") after " + run, x.addFrame(seed), before + 1);
            checks.state("after " + run + " and addFrame(" + seed + ")", x, before + 1, due);
        }
    }

    private static void sixteenBitsAndNoMore() {
        for (int k = 0; k < Frame.LENGTH; k++) {
            int weight = Frame.weight(k);
            if (k > 0) {
                checks.equal("highest bit below: at(" + k + ")", cell(1 << k - 1, k), 0);
            }
            checks.equal("lowest bit: at(" + k + ")", cell(1 << k, k), weight);
            checks.equal("bit 14: at(" + k + ")", cell(1 << k + 14, k), weight * 16384);
            checks.equal("bit 15: at(" + k + ")", cell(1 << k + 15, k), weight * -32768);
            checks.equal("bit 16: at(" + k + ")", cell(1 << k + 16, k), 0);
            checks.equal("no bit but the sixteen: at(" + k + ")", cell(~(0xffff << k), k), 0);
        }
    }

    private static void bitFifteenIsTheSign() {
        firstFrame(0x8000, -32768, 2 * 16384, 3 * 8192, 4 * 4096, 4 * 2048, 3 * 1024, 2 * 512, 256);
        firstFrame(0x7fff, 32767, 2 * 16383, 3 * 8191, 4 * 4095, 4 * 2047, 3 * 1023, 2 * 511, 255);
        firstFrame(0xffff, -1, 2 * 32767, 3 * 16383, 4 * 8191, 4 * 4095, 3 * 2047, 2 * 1023, 511);
        firstFrame(0x10000, 0, 2 * -32768, 3 * 16384, 4 * 8192, 4 * 4096, 3 * 2048, 2 * 1024, 512);
    }

    private static void bothEndsOfTheSample() {
        for (int k = 0; k < Frame.LENGTH; k++) {
            checks.equal("lowest: at(" + k + ")", cell(0x8000 << k, k), Frame.weight(k) * -32768);
            checks.equal("highest: at(" + k + ")", cell(0x7fff << k, k), Frame.weight(k) * 32767);
            checks.equal("-1: at(" + k + ")", cell(0xffff << k, k), Frame.weight(k) * -1);
            checks.equal("0: at(" + k + ")", cell(0, k), 0);
        }
    }

    private static void signOfTheSeedNeverShows() {
        firstFrame(Integer.MIN_VALUE);
        firstFrame(0xff800000);
        firstFrame(Integer.MIN_VALUE + 1, 1);
        firstFrame(0xffc00000, 0, 0, 0, 0, 0, 0, 0, -32768);
        firstFrame(Integer.MAX_VALUE, -1, -2, -3, -4, -4, -3, -2, -1);
        for (int seed : Frame.edgeSeeds()) {
            firstFrame(seed, frame(seed ^ Integer.MIN_VALUE));
        }
    }

    private static void weights() {
        firstFrame(-1, -1, -2, -3, -4, -4, -3, -2, -1);
        int[] weights = {1, 2, 3, 4, 4, 3, 2, 1};
        for (int k = 0; k < Frame.LENGTH; k++) {
            checks.equal("x(" + k + ") is 1: at(" + k + ")", cell(1 << k, k), weights[k]);
        }
    }

    private static void weightsOnBothSidesOfTheMiddle() {
        checks.equal("k = 0", cell(1, 0), 1);
        checks.equal("k = 3, the last that rises", cell(1 << 3, 3), 4);
        checks.equal("k = 4, the first that falls", cell(1 << 4, 4), 4);
        checks.equal("k = 7", cell(1 << 7, 7), 1);
        for (int k = 0; k < 4; k++) {
            checks.equal("k = " + k, cell(1 << k, k), k + 1);
        }
        for (int k = 4; k < 8; k++) {
            checks.equal("k = " + k, cell(1 << k, k), 8 - k);
        }
    }

    private static int[] frame(int seed) {
        return Frame.addedTo(new int[Checks.CELLS], 0, seed);
    }

    private static int cell(int seed, int k) {
        OverlapAdd x = new OverlapAdd();
        x.addFrame(seed);
        return x.at(k);
    }

    private static void firstFrame(int seed, int... due) {
        OverlapAdd x = new OverlapAdd();
        checks.equal("addFrame(" + seed + ")", x.addFrame(seed), 1);
        checks.state("after addFrame(" + seed + ")", x, 1, due);
    }
}
