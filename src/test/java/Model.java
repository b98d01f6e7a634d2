import java.util.ArrayList;
import java.util.List;

/**
 * The document's words once more, in the library's lists and position by position, with no thought
 * for speed: what the class answers is held against this.
 */
final class Model {
    private final List<List<int[]>> tracks = new ArrayList<>();

    Model() {
        for (int t = 0; t < 3; t++) {
            tracks.add(new ArrayList<>());
        }
    }

    int add(int t, int stretch) {
        if (badTrack(t)) {
            return -1;
        }
        if (decode(stretch) == null) {
            return -2;
        }
        if (tracks.get(t).size() == 32) {
            return -3;
        }
        tracks.get(t).add(decode(stretch));
        sort(t);
        return tracks.get(t).size();
    }

    int repeat(int t, int stretch, int step, int count) {
        if (badTrack(t)) {
            return -1;
        }
        if (decode(stretch) == null) {
            return -2;
        }
        if (Math.abs((long) step) > 64) {
            return -3;
        }
        if (count < 1 || count > 32) {
            return -4;
        }
        int[] next = decode(stretch);
        for (int k = 0; k < count && next[0] >= 0 && next[1] <= 64; k++) {
            add(t, 65 * next[0] + next[1]);
            next = new int[] {next[0] + step, next[1] + step};
        }
        return tracks.get(t).size();
    }

    int remove(int t, int i) {
        if (badTrack(t)) {
            return -1;
        }
        if (badNumber(t, i)) {
            return -2;
        }
        tracks.get(t).remove(i);
        return tracks.get(t).size();
    }

    int clear(int t, int stretch) {
        if (badTrack(t)) {
            return -1;
        }
        int[] outer = decode(stretch);
        if (outer == null) {
            return -2;
        }
        int before = tracks.get(t).size();
        tracks.get(t).removeIf(inner -> outer[0] <= inner[0] && inner[1] <= outer[1]);
        return before - tracks.get(t).size();
    }

    int merge(int t) {
        return badTrack(t) ? -1 : become(t, cover(t));
    }

    int join(int kind, int t, int u) {
        if (kind < 0 || kind > 3) {
            return -1;
        }
        if (badTrack(t) || badTrack(u)) {
            return -2;
        }
        boolean[] ofT = cover(t);
        boolean[] ofU = cover(u);
        boolean[] set = new boolean[64];
        for (int p = 0; p < 64; p++) {
            int in = (ofT[p] ? 1 : 0) + (ofU[p] ? 1 : 0);
            set[p] = kind == 0 ? in == 2 : kind == 1 ? in >= 1 : kind == 2 ? in == 1 : ofT[p] && in == 1;
        }
        return become(t, set);
    }

    int complement(int t) {
        if (badTrack(t)) {
            return -1;
        }
        boolean[] set = cover(t);
        for (int p = 0; p < 64; p++) {
            set[p] = !set[p];
        }
        return become(t, set);
    }

    int copy(int t, int u) {
        if (badTrack(t) || badTrack(u)) {
            return -1;
        }
        tracks.set(t, new ArrayList<>(tracks.get(u)));
        return tracks.get(t).size();
    }

    int size(int t) {
        return badTrack(t) ? -1 : tracks.get(t).size();
    }

    int stretch(int t, int i) {
        if (badTrack(t)) {
            return -1;
        }
        if (badNumber(t, i)) {
            return -2;
        }
        int[] one = tracks.get(t).get(i);
        return 65 * one[0] + one[1];
    }

    int overlapping(int t, int stretch) {
        if (badTrack(t)) {
            return -1;
        }
        return decode(stretch) == null ? -2 : overlapsOf(t, decode(stretch)).size();
    }

    int overlap(int t, int stretch, int k) {
        if (badTrack(t)) {
            return -1;
        }
        if (decode(stretch) == null) {
            return -2;
        }
        List<Integer> numbers = overlapsOf(t, decode(stretch));
        return k < 0 || k >= numbers.size() ? -3 : numbers.get(k);
    }

    int around(int t, int stretch) {
        if (badTrack(t)) {
            return -1;
        }
        int[] inner = decode(stretch);
        if (inner == null) {
            return -2;
        }
        return (int) tracks.get(t).stream().filter(outer -> common(outer, inner) == inner[1] - inner[0]).count();
    }

    int depth(int t, int position) {
        if (badTrack(t)) {
            return -1;
        }
        if (position < 0 || position > 63) {
            return -2;
        }
        return (int) tracks.get(t).stream().filter(one -> covers(one, position)).count();
    }

    int deepest(int t) {
        if (badTrack(t)) {
            return -1;
        }
        int d = 32;
        while (covered(t, d) == 0) {
            d--;
        }
        return d;
    }

    int covered(int t, int d) {
        if (badTrack(t)) {
            return -1;
        }
        if (d < 0 || d > 32) {
            return -2;
        }
        int found = 0;
        for (int p = 0; p < 64; p++) {
            found += depth(t, p) >= d ? 1 : 0;
        }
        return found;
    }

    int closest(int t, int stretch) {
        int least = distance(t, stretch);
        if (least < 0) {
            return least;
        }
        int i = 0;
        while (between(tracks.get(t).get(i), decode(stretch)) != least) {
            i++;
        }
        return i;
    }

    int distance(int t, int stretch) {
        if (badTrack(t)) {
            return -1;
        }
        if (decode(stretch) == null) {
            return -2;
        }
        return tracks.get(t).stream().mapToInt(one -> between(one, decode(stretch))).min().orElse(-3);
    }

    int shared(int t, int u) {
        if (badTrack(t) || badTrack(u)) {
            return -1;
        }
        boolean[] ofT = cover(t);
        boolean[] ofU = cover(u);
        int found = 0;
        for (int p = 0; p < 64; p++) {
            found += ofT[p] && ofU[p] ? 1 : 0;
        }
        return found;
    }

    int meetings(int t, int u) {
        if (badTrack(t) || badTrack(u)) {
            return -1;
        }
        return tracks.get(t).stream().mapToInt(one -> overlapsOf(u, one).size()).sum();
    }

    private static boolean badTrack(int t) {
        return t != 0 && t != 1 && t != 2;
    }

    private boolean badNumber(int t, int i) {
        return i < 0 || i >= tracks.get(t).size();
    }

    private static int[] decode(int stretch) {
        for (int s = 0; s < 64; s++) {
            int e = stretch >= 0 ? stretch - 65 * s : 0;
            if (s < e && e <= 64) {
                return new int[] {s, e};
            }
        }
        return null;
    }

    private void sort(int t) {
        tracks.get(t).sort((a, b) -> a[0] != b[0] ? a[0] - b[0] : b[1] - a[1]);
    }

    private static boolean covers(int[] one, int position) {
        return one[0] <= position && position < one[1];
    }

    private static int common(int[] one, int[] other) {
        int found = 0;
        for (int p = 0; p < 64; p++) {
            found += covers(one, p) && covers(other, p) ? 1 : 0;
        }
        return found;
    }

    /** The positions right of one stretch and left of the other: there are none if the two overlap. */
    private static int between(int[] one, int[] other) {
        int found = 0;
        for (int p = 0; p < 64; p++) {
            boolean onward = one[1] <= p && p < other[0];
            boolean back = other[1] <= p && p < one[0];
            found += onward || back ? 1 : 0;
        }
        return found;
    }

    private List<Integer> overlapsOf(int t, int[] one) {
        List<Integer> numbers = new ArrayList<>();
        for (int i = 0; i < tracks.get(t).size(); i++) {
            if (common(tracks.get(t).get(i), one) > 0) {
                numbers.add(i);
            }
        }
        return numbers;
    }

    private boolean[] cover(int t) {
        boolean[] set = new boolean[64];
        for (int p = 0; p < 64; p++) {
            set[p] = depth(t, p) > 0;
        }
        return set;
    }

    private int become(int t, boolean[] set) {
        tracks.get(t).clear();
        for (int s = 0; s < 64; s++) {
            int e = s;
            while (e < 64 && set[e]) {
                e++;
            }
            if (e > s) {
                tracks.get(t).add(new int[] {s, e});
                s = e;
            }
        }
        return tracks.get(t).size();
    }
}
