/** Tracks of stretches on a line of positions: overlaps, depths, nearness, and sums of positions. */
public final class TrackAlgebra {
    private static final int TRACKS = 3;
    private static final int ROOM = 32;
    private static final int PLACES = 96;
    private static final int POSITIONS = 64;
    private static final int BASE = 65;
    private static final int GREATEST_STEP = 64;
    private static final int GREATEST_COUNT = 32;

    // Stretch i of track t stands at place t * ROOM + i; what stands at a
    // place at or behind a track's count is left over and means nothing.
    private final int[] starts = new int[PLACES];
    private final int[] ends = new int[PLACES];
    private final int[] counts = new int[TRACKS];

    public TrackAlgebra() {
        // Counts of 0, which Java gives a new array, are three empty tracks.
    }

    public int add(int t, int stretch) {
        if (!isTrack(t)) {
            return -1;
        }
        if (!isStretch(stretch)) {
            return -2;
        }
        if (counts[t] >= ROOM) {
            return -3;
        }
        insert(t, stretch / BASE, stretch % BASE);
        return counts[t];
    }

    public int repeat(int t, int stretch, int step, int count) {
        if (!isTrack(t)) {
            return -1;
        }
        if (!isStretch(stretch)) {
            return -2;
        }
        if (step < -GREATEST_STEP || step > GREATEST_STEP) {
            return -3;
        }
        if (count < 1 || count > GREATEST_COUNT) {
            return -4;
        }
        for (int k = 0; k < count; k++) {
            int s = stretch / BASE + k * step;
            int e = stretch % BASE + k * step;
            if (s >= 0 && e <= POSITIONS && counts[t] < ROOM) {
                insert(t, s, e);
            }
        }
        return counts[t];
    }

    public int remove(int t, int i) {
        if (!isTrack(t)) {
            return -1;
        }
        if (!isNumber(t, i)) {
            return -2;
        }
        int last = t * ROOM + counts[t] - 1;
        for (int place = t * ROOM + i; place < last; place++) {
            starts[place] = starts[place + 1];
            ends[place] = ends[place + 1];
        }
        counts[t]--;
        return counts[t];
    }

    public int clear(int t, int stretch) {
        if (!isTrack(t)) {
            return -1;
        }
        if (!isStretch(stretch)) {
            return -2;
        }
        int a = stretch / BASE;
        int b = stretch % BASE;
        int first = t * ROOM;
        int before = counts[t];
        int kept = 0;
        for (int i = 0; i < before; i++) {
            int s = starts[first + i];
            int e = ends[first + i];
            if (!liesIn(s, e, a, b)) {
                starts[first + kept] = s;
                ends[first + kept] = e;
                kept++;
            }
        }
        counts[t] = kept;
        return before - kept;
    }

    public int merge(int t) {
        if (!isTrack(t)) {
            return -1;
        }
        long cover = coverOf(t);
        return becomeRuns(t, cover);
    }

    public int join(int kind, int t, int u) {
        if (kind < 0 || kind > 3) {
            return -1;
        }
        if (!isTrack(t) || !isTrack(u)) {
            return -2;
        }
        long ofT = coverOf(t);
        long ofU = coverOf(u);
        long joined = joinedCovers(kind, ofT, ofU);
        return becomeRuns(t, joined);
    }

    public int complement(int t) {
        if (!isTrack(t)) {
            return -1;
        }
        long cover = coverOf(t);
        return becomeRuns(t, ~cover);
    }

    public int copy(int t, int u) {
        if (!isTrack(t) || !isTrack(u)) {
            return -1;
        }
        for (int i = 0; i < counts[u]; i++) {
            starts[t * ROOM + i] = starts[u * ROOM + i];
            ends[t * ROOM + i] = ends[u * ROOM + i];
        }
        counts[t] = counts[u];
        return counts[t];
    }

    public int size(int t) {
        if (!isTrack(t)) {
            return -1;
        }
        return counts[t];
    }

    public int stretch(int t, int i) {
        if (!isTrack(t)) {
            return -1;
        }
        if (!isNumber(t, i)) {
            return -2;
        }
        int place = t * ROOM + i;
        return BASE * starts[place] + ends[place];
    }

    public int overlapping(int t, int stretch) {
        if (!isTrack(t)) {
            return -1;
        }
        if (!isStretch(stretch)) {
            return -2;
        }
        return countMeeting(t, stretch / BASE, stretch % BASE);
    }

    public int overlap(int t, int stretch, int k) {
        if (!isTrack(t)) {
            return -1;
        }
        if (!isStretch(stretch)) {
            return -2;
        }
        int s = stretch / BASE;
        int e = stretch % BASE;
        int seen = 0;
        for (int i = 0; i < counts[t]; i++) {
            if (meets(t * ROOM + i, s, e)) {
                if (seen == k) {
                    return i;
                }
                seen++;
            }
        }
        return -3;
    }

    public int around(int t, int stretch) {
        if (!isTrack(t)) {
            return -1;
        }
        if (!isStretch(stretch)) {
            return -2;
        }
        int s = stretch / BASE;
        int e = stretch % BASE;
        int found = 0;
        for (int i = 0; i < counts[t]; i++) {
            int place = t * ROOM + i;
            if (liesIn(s, e, starts[place], ends[place])) {
                found++;
            }
        }
        return found;
    }

    public int depth(int t, int position) {
        if (!isTrack(t)) {
            return -1;
        }
        if (position < 0 || position >= POSITIONS) {
            return -2;
        }
        return depthAt(t, position);
    }

    public int deepest(int t) {
        if (!isTrack(t)) {
            return -1;
        }
        int greatest = 0;
        for (int position = 0; position < POSITIONS; position++) {
            int here = depthAt(t, position);
            if (here > greatest) {
                greatest = here;
            }
        }
        return greatest;
    }

    public int covered(int t, int d) {
        if (!isTrack(t)) {
            return -1;
        }
        if (d < 0 || d > ROOM) {
            return -2;
        }
        int found = 0;
        for (int position = 0; position < POSITIONS; position++) {
            int here = depthAt(t, position);
            if (here >= d) {
                found++;
            }
        }
        return found;
    }

    public int closest(int t, int stretch) {
        if (!isTrack(t)) {
            return -1;
        }
        if (!isStretch(stretch)) {
            return -2;
        }
        if (counts[t] == 0) {
            return -3;
        }
        return nearest(t, stretch / BASE, stretch % BASE);
    }

    public int distance(int t, int stretch) {
        if (!isTrack(t)) {
            return -1;
        }
        if (!isStretch(stretch)) {
            return -2;
        }
        if (counts[t] == 0) {
            return -3;
        }
        int s = stretch / BASE;
        int e = stretch % BASE;
        int i = nearest(t, s, e);
        return gap(t * ROOM + i, s, e);
    }

    public int shared(int t, int u) {
        if (!isTrack(t) || !isTrack(u)) {
            return -1;
        }
        long ofT = coverOf(t);
        long ofU = coverOf(u);
        return countPositions(ofT & ofU);
    }

    public int meetings(int t, int u) {
        if (!isTrack(t) || !isTrack(u)) {
            return -1;
        }
        int pairs = 0;
        for (int i = 0; i < counts[t]; i++) {
            int place = t * ROOM + i;
            pairs += countMeeting(u, starts[place], ends[place]);
        }
        return pairs;
    }

    private static boolean isTrack(int t) {
        return t >= 0 && t < TRACKS;
    }

    // A remainder is never above 64, so s < e bounds s and e from above, too.
    private static boolean isStretch(int stretch) {
        return stretch >= 0 && stretch / BASE < stretch % BASE;
    }

    private boolean isNumber(int t, int i) {
        return i >= 0 && i < counts[t];
    }

    private static boolean liesIn(int s, int e, int a, int b) {
        return a <= s && e <= b;
    }

    private boolean meets(int place, int s, int e) {
        return starts[place] < e && s < ends[place];
    }

    private int countMeeting(int t, int s, int e) {
        int found = 0;
        for (int i = 0; i < counts[t]; i++) {
            if (meets(t * ROOM + i, s, e)) {
                found++;
            }
        }
        return found;
    }

    // The caller has seen that the track has room.
    private void insert(int t, int s, int e) {
        int first = t * ROOM;
        int place = first + counts[t];
        while (place > first && comesBefore(s, e, place - 1)) {
            starts[place] = starts[place - 1];
            ends[place] = ends[place - 1];
            place--;
        }
        starts[place] = s;
        ends[place] = e;
        counts[t]++;
    }

    private boolean comesBefore(int s, int e, int place) {
        return s < starts[place] || (s == starts[place] && e > ends[place]);
    }

    private int depthAt(int t, int position) {
        return countMeeting(t, position, position + 1);
    }

    // The caller has seen that the track is not empty.
    private int nearest(int t, int s, int e) {
        int best = 0;
        int least = POSITIONS;
        for (int i = 0; i < counts[t]; i++) {
            int here = gap(t * ROOM + i, s, e);
            if (here < least) {
                least = here;
                best = i;
            }
        }
        return best;
    }

    private int gap(int place, int s, int e) {
        if (ends[place] <= s) {
            return s - ends[place];
        }
        if (e <= starts[place]) {
            return starts[place] - e;
        }
        return 0;
    }

    // A set of positions is a long whose bit p stands for position p.
    private long coverOf(int t) {
        long cover = 0L;
        for (int i = 0; i < counts[t]; i++) {
            int s = starts[t * ROOM + i];
            int e = ends[t * ROOM + i];
            cover |= (-1L >>> (POSITIONS - (e - s))) << s;
        }
        return cover;
    }

    private static long joinedCovers(int kind, long ofT, long ofU) {
        switch (kind) {
            case 0:
                return ofT & ofU;
            case 1:
                return ofT | ofU;
            case 2:
                return ofT ^ ofU;
            default:
                return ofT & ~ofU;
        }
    }

    private static boolean isIn(long positions, int position) {
        return ((positions >>> position) & 1L) == 1L;
    }

    private static int countPositions(long positions) {
        int found = 0;
        for (int position = 0; position < POSITIONS; position++) {
            if (isIn(positions, position)) {
                found++;
            }
        }
        return found;
    }

    // Two runs have a position between them, so 64 positions hold at most 32
    // runs: they always fit a track, and they are found in its order.
    private int becomeRuns(int t, long positions) {
        int place = t * ROOM - 1;
        boolean inside = false;
        for (int position = 0; position < POSITIONS; position++) {
            boolean here = isIn(positions, position);
            if (here && !inside) {
                place++;
                starts[place] = position;
            }
            if (here) {
                ends[place] = position + 1;
            }
            inside = here;
        }
        counts[t] = place + 1 - t * ROOM;
        return counts[t];
    }
}
