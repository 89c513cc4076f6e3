/** Triangular-window overlap-add accumulator: hop 4, frames of 8, room for three frames. */
public final class OverlapAdd {
    private static final int HOP = 4;
    private static final int FRAME_LENGTH = 8;
    private static final int CELLS = 16;
    private static final int MAX_PENDING = 3;
    private static final int REFUSED = -1;

    private final int[] acc = new int[CELLS];
    private int pendingFrames = 0;

    public OverlapAdd() {
    }

    public int addFrame(int seed) {
        if (pendingFrames >= MAX_PENDING) {
            return REFUSED;
        }
        int start = HOP * pendingFrames;
        for (int k = 0; k < FRAME_LENGTH; k++) {
            int product = weight(k) * sample(seed, k);
            // Neighbouring frames overlap by half, so the cell may already hold a part of one.
            acc[start + k] += product;
        }
        pendingFrames++;
        return pendingFrames;
    }

    public int pull() {
        int answer = acc[0];
        shiftByHop();
        // A pull without a pending frame is allowed: it flushes the tail of the last frame.
        if (pendingFrames > 0) {
            pendingFrames--;
        }
        return answer;
    }

    public int pending() {
        return pendingFrames;
    }

    public int at(int i) {
        if (i < 0 || i >= CELLS) {
            return 0;
        }
        return acc[i];
    }

    private static int weight(int k) {
        return k < FRAME_LENGTH / 2 ? k + 1 : FRAME_LENGTH - k;
    }

    private static int sample(int seed, int k) {
        // The cast to short keeps the low 16 bits and gives them their sign.
        return (short) (seed >>> k);
    }

    private void shiftByHop() {
        // Going upwards, each cell is read before it is written over.
        for (int j = 0; j < CELLS - HOP; j++) {
            acc[j] = acc[j + HOP];
        }
        for (int j = CELLS - HOP; j < CELLS; j++) {
            acc[j] = 0;
        }
    }
}
