import java.util.ArrayList;
import java.util.List;

/** Short runs of calls on new objects; together they reach every kind of state that the document tells apart. */
final class Runs {
    static final int MIXED = 123456789;
    static final int OTHER = -2000029;

    /** One letter for one call: Negative, Zero, Mixed or Other frame, or Pull. */
    private static final String CALLS = "nzmop";

    private Runs() {
    }

    /** Every run of at most so many calls; the first is the empty one, which leaves the object new. */
    static List<String> upTo(int length) {
        List<String> runs = new ArrayList<>(List.of(""));
        // The list grows while it is gone through: each run is made longer by every call.
        for (int i = 0; runs.get(i).length() < length; i++) {
            for (char call : CALLS.toCharArray()) {
                runs.add(runs.get(i) + call);
            }
        }
        return runs;
    }

    static OverlapAdd after(String run) {
        OverlapAdd x = new OverlapAdd();
        for (char call : run.toCharArray()) {
            make(x, call);
        }
        return x;
    }

    private static void make(OverlapAdd x, char call) {
        switch (call) {
            case 'n' -> x.addFrame(-1);
            case 'z' -> x.addFrame(0);
            case 'm' -> x.addFrame(MIXED);
            case 'o' -> x.addFrame(OTHER);
            case 'p' -> x.pull();
            default -> throw new IllegalArgumentException("no call has the letter " + call);
        }
    }
}
