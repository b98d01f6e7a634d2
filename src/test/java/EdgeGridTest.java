import java.lang.reflect.InvocationTargetException;
import java.util.Map;

/**
 * Every method with every choice of values at and around the bounds of its arguments, good and bad, on tracks that
 * are empty, full and between: the answer and all three tracks after it are held against the model.
 */
public final class EdgeGridTest extends Boundary {
    private static final int[] TRACKS = {MIN, -1, 0, 1, 2, 3, MAX};
    private static final int[] STRETCHES = {MIN, -1, 0, 1, 2, 63, 64, 65, 66, 67, st(5, 10), st(5, 20), st(8, 12),
        st(12, 31), st(20, 30), st(31, 32), st(31, 33), st(40, 63), st(61, 62), st(62, 63), 4094, 4158, 4159, 4160,
        MAX};
    private static final int[] FEW_STRETCHES = {MIN, 0, 1, 64, st(20, 30), 4159, 4160, MAX};
    private static final int[] STEPS = {MIN, -65, -64, -63, -2, -1, 0, 1, 2, 63, 64, 65, MAX};
    private static final int[] COUNTS = {MIN, -1, 0, 1, 2, 31, 32, 33, MAX};
    private static final int[] NUMBERS = {MIN, -1, 0, 1, 2, 5, 6, 30, 31, 32, 33, 63, 64, 95, 96, MAX};
    private static final int[] KINDS = {MIN, -1, 0, 1, 2, 3, 4, MAX};
    private static final int[] POSITIONS = {MIN, -1, 0, 1, 5, 20, 31, 32, 61, 62, 63, 64, 65, MAX};
    private static final int[] DEPTHS = {MIN, -1, 0, 1, 2, 4, 5, 31, 32, 33, 64, MAX};
    private static final Map<Argument, int[]> VALUES = Map.of(TRACK, TRACKS, JOINED, TRACKS, STRETCH, STRETCHES,
            STEP, STEPS, COUNT, COUNTS, NUMBER, NUMBERS, WHICH, NUMBERS, KIND, KINDS, POSITION, POSITIONS,
            DEPTH, DEPTHS);

    public static void main(String[] args) {
        for (Map.Entry<String, Argument[]> method : FACE.entrySet()) {
            sentence("every edge of " + method.getKey());
            int[][] values = edges(method.getValue());
            for (Tracks tracks : Tracks.ALL) {
                forEachChoice(values, choice -> compare(tracks, method.getKey(), choice));
            }
        }
        neverThrows();
        end();
    }

    private static int[][] edges(Argument... arguments) {
        int[][] values = new int[arguments.length][];
        for (int a = 0; a < arguments.length; a++) {
            boolean few = arguments.length == 4 && arguments[a] == STRETCH;
            values[a] = few ? FEW_STRETCHES : VALUES.get(arguments[a]);
        }
        return values;
    }

    private static void compare(Tracks tracks, String method, int... args) {
        try {
            Model model = tracks.model();
            int want = call(model, method, args);
            makes(tracks, Tracks.in(model), want, method, args);
        } catch (InvocationTargetException thrown) {
            throw new IllegalStateException("the model threw", thrown);
        }
    }

    /** One object takes all the calls, far more than 512: what it answers then is free, but answer it must. */
    private static void neverThrows() {
        TrackAlgebra x = Tracks.MIXED.object();
        for (Map.Entry<String, Argument[]> method : FACE.entrySet()) {
            forEachChoice(edges(method.getValue()), choice -> {
                try {
                    call(x, method.getKey(), choice);
                } catch (InvocationTargetException thrown) {
                    Due.tell(text(method.getKey(), choice) + " threw " + thrown.getCause());
                }
            });
        }
    }
}
