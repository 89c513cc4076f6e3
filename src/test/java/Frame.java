/** The document's frame, worked out in another way than in the program, and the seeds at its edges. */
final class Frame {
    static final int LENGTH = 8;

    private static final int[] WEIGHTS = {1, 2, 3, 4, 4, 3, 2, 1};

    private Frame() {
    }

    static int weight(int k) {
        return WEIGHTS[k];
    }

    static int sample(int seed, int k) {
        long unsigned = seed & 0xffffffffL;
        long low = (unsigned >> k) % 65536;
        return (int) (low < 32768 ? low : low - 65536);
    }

    static int product(int seed, int k) {
        return weight(k) * sample(seed, k);
    }

    /** The given cells with the frame of the seed added at the place that the count asks for. */
    static int[] addedTo(int[] cells, int pendingBefore, int seed) {
        int[] sum = cells.clone();
        for (int k = 0; k < LENGTH; k++) {
            sum[4 * pendingBefore + k] += product(seed, k);
        }
        return sum;
    }

    /** The ends of int and of short, each single bit, and a short's ends at the place of each k. */
    static int[] edgeSeeds() {
        int[] named = {0, 1, -1, 2, -2, Integer.MIN_VALUE, Integer.MIN_VALUE + 1, Integer.MAX_VALUE - 1,
            Integer.MAX_VALUE, 0xffff, 0x10000, 0x7fffff, 0x800000, 0xff800000, 0xaaaaaaaa, 0x55555555};
        int[] seeds = new int[named.length + 32 + 2 * LENGTH];
        System.arraycopy(named, 0, seeds, 0, named.length);
        int next = named.length;
        for (int bit = 0; bit < 32; bit++) {
            seeds[next++] = 1 << bit;
        }
        for (int k = 0; k < LENGTH; k++) {
            seeds[next++] = 0x7fff << k;
            seeds[next++] = 0x8000 << k;
        }
        return seeds;
    }
}
