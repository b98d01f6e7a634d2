/** The terms OVERLAP, DISTANCE and LIES IN, for each pair of stretches that there is, by counting positions. */
public final class PairTest {
    // An object is promised 512 calls, and a pair takes four.
    private static final int PAIRS_OF_ONE_OBJECT = 100;

    public static void main(String[] args) {
        for (int s = 0; s < 64; s++) {
            for (int e = s + 1; e <= 64; e++) {
                withEveryOther(s, e);
            }
        }
        Due.end();
    }

    private static void withEveryOther(int s, int e) {
        TrackAlgebra x = null;
        int pairs = 0;
        for (int a = 0; a < 64; a++) {
            for (int b = a + 1; b <= 64; b++) {
                if (pairs % PAIRS_OF_ONE_OBJECT == 0) {
                    x = Due.with(Due.st(s, e));
                }
                pairs++;
                ask(x, s, e, a, b);
            }
        }
    }

    private static void ask(TrackAlgebra x, int s, int e, int a, int b) {
        int both = 0;
        int outside = 0;
        int between = 0;
        for (int p = 0; p < 64; p++) {
            boolean inOne = s <= p && p < e;
            boolean inOther = a <= p && p < b;
            both += inOne && inOther ? 1 : 0;
            outside += inOther && !inOne ? 1 : 0;
            between += e <= p && p < a || b <= p && p < s ? 1 : 0;
        }
        int asked = Due.st(a, b);
        due("overlapping", x.overlapping(0, asked), both > 0 ? 1 : 0, s, e, asked);
        due("overlap", x.overlap(0, asked, 0), both > 0 ? 0 : -3, s, e, asked);
        due("distance", x.distance(0, asked), between, s, e, asked);
        due("around", x.around(0, asked), outside == 0 ? 1 : 0, s, e, asked);

        boolean lies = both == e - s;
        TrackAlgebra y = Due.with(Due.st(s, e));
        due("clear", y.clear(0, asked), lies ? 1 : 0, s, e, asked);
        due("size after clear", y.size(0), lies ? 0 : 1, s, e, asked);
    }

    private static void due(String call, int got, int want, int s, int e, int asked) {
        if (got != want) {
            Due.answer("a track of (" + s + ", " + e + "): " + call + "(0, " + asked + ")", got, want);
        }
    }
}
