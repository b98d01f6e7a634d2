import java.util.Arrays;

/** What the three tracks of an object hold, in their order: before a call, or as it is due after one. */
final class Tracks {
    static final Tracks EMPTY = new Tracks(of(), of(), of());

    /** Nested, equal, touching and single stretches, at both ends of the line and between. */
    static final Tracks SOME = new Tracks(
            of(Due.st(5, 20), Due.st(5, 10), Due.st(8, 12), Due.st(8, 12), Due.st(30, 40), Due.st(63, 64)),
            of(Due.st(0, 6), Due.st(10, 12), Due.st(12, 31)),
            of(Due.st(20, 21)));

    /** 32 in each: the whole line 32 times, the even positions one by one, the odd ones one by one. */
    static final Tracks FULL = new Tracks(
            row(Due.st(0, 64), 0, 32), row(Due.st(0, 1), 2, 32), row(Due.st(1, 2), 2, 32));

    /** A full track, an empty one, and one that has room for just one more. */
    static final Tracks MIXED = new Tracks(row(Due.st(0, 33), 1, 32), of(), row(Due.st(1, 2), 2, 31));

    static final Tracks[] ALL = {EMPTY, SOME, FULL, MIXED};

    private final int[][] tracks;

    private Tracks(int[]... tracks) {
        this.tracks = tracks;
    }

    static Tracks in(Model model) {
        int[][] tracks = new int[3][];
        for (int t = 0; t < 3; t++) {
            tracks[t] = new int[model.size(t)];
            for (int i = 0; i < tracks[t].length; i++) {
                tracks[t][i] = model.stretch(t, i);
            }
        }
        return new Tracks(tracks);
    }

    static int[] of(int... stretches) {
        return stretches;
    }

    /** The stretch itself, and each further one by that many positions to the right of the one before. */
    static int[] row(int stretch, int step, int count) {
        int[] stretches = new int[count];
        for (int k = 0; k < count; k++) {
            stretches[k] = stretch + 66 * step * k;
        }
        return stretches;
    }

    /** The two lists one behind the other: what they hold stands in a track's order then, or the caller errs. */
    static int[] both(int[] first, int... second) {
        int[] stretches = Arrays.copyOf(first, first.length + second.length);
        System.arraycopy(second, 0, stretches, first.length, second.length);
        return stretches;
    }

    /** These tracks, with another list for track t. */
    Tracks with(int t, int... stretches) {
        int[][] changed = tracks.clone();
        changed[t] = stretches;
        return new Tracks(changed);
    }

    int[] track(int t) {
        return tracks[t];
    }

    TrackAlgebra object() {
        TrackAlgebra x = new TrackAlgebra();
        for (int t = 0; t < 3; t++) {
            Due.fill(x, t, tracks[t]);
        }
        return x;
    }

    Model model() {
        Model model = new Model();
        for (int t = 0; t < 3; t++) {
            for (int stretch : tracks[t]) {
                model.add(t, stretch);
            }
        }
        return model;
    }

    /** In the form of Due.state. */
    String text() {
        return Arrays.toString(tracks[0]) + Arrays.toString(tracks[1]) + Arrays.toString(tracks[2]);
    }
}
