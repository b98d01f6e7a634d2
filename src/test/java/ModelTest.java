/** All promises: long mixed runs of calls, good and bad, held against the model; the same runs every time. */
public final class ModelTest {
    private static final int RUNS = 3000;
    private static final int CALLS = 100;
    // A look at all tracks takes up to 99 calls, and an object is promised 512: 100 + 4 * 99 fit.
    private static final int CALLS_BETWEEN_LOOKS = 25;
    private static final int METHODS = 20;
    private static final int[] FAR = {Integer.MIN_VALUE, Integer.MAX_VALUE, -1, 65, 66, 33, 4225, -4000};

    private static long seed = 1;

    public static void main(String[] args) {
        for (int run = 0; run < RUNS; run++) {
            oneRun(run);
        }
        Due.end();
    }

    private static void oneRun(int run) {
        TrackAlgebra x = new TrackAlgebra();
        Model model = new Model();
        // Some runs grow, some are turned over often, so that full and empty tracks both come up.
        int favour = pick(4);
        for (int n = 1; n <= CALLS; n++) {
            int method = pick(4) < favour ? pick(2) : pick(METHODS);
            oneCall(run, x, model, method);
            if (n % CALLS_BETWEEN_LOOKS == 0) {
                Due.holds("run " + run, x, Tracks.in(model).text());
            }
        }
    }

    private static void oneCall(int run, TrackAlgebra x, Model m, int method) {
        int t = track();
        int u = track();
        int a = stretch();
        int i = number(34);
        String call = "run " + run + ": ";
        String ta = "(" + t + ", " + a + ")";
        String ti = "(" + t + ", " + i + ")";
        String tu = "(" + t + ", " + u + ")";
        switch (method) {
            case 0 -> Due.answer(call + "add" + ta, x.add(t, a), m.add(t, a));
            case 1 -> {
                int step = pick(2) == 0 ? number(66) : -number(66);
                int count = pick(2) == 0 ? pick(5) : number(34);
                Due.answer(call + "repeat" + ta + " by " + step + ", " + count, x.repeat(t, a, step, count),
                        m.repeat(t, a, step, count));
            }
            case 2 -> Due.answer(call + "remove" + ti, x.remove(t, i), m.remove(t, i));
            case 3 -> Due.answer(call + "clear" + ta, x.clear(t, a), m.clear(t, a));
            case 4 -> Due.answer(call + "merge " + t, x.merge(t), m.merge(t));
            case 5 -> {
                int kind = pick(12) == 0 ? number(6) : pick(4);
                Due.answer(call + "join " + kind + " of " + tu, x.join(kind, t, u), m.join(kind, t, u));
            }
            case 6 -> Due.answer(call + "complement " + t, x.complement(t), m.complement(t));
            case 7 -> Due.answer(call + "copy" + tu, x.copy(t, u), m.copy(t, u));
            case 8 -> Due.answer(call + "size " + t, x.size(t), m.size(t));
            case 9 -> Due.answer(call + "stretch" + ti, x.stretch(t, i), m.stretch(t, i));
            case 10 -> Due.answer(call + "overlapping" + ta, x.overlapping(t, a), m.overlapping(t, a));
            case 11 -> Due.answer(call + "overlap" + ta + " " + i, x.overlap(t, a, i), m.overlap(t, a, i));
            case 12 -> Due.answer(call + "around" + ta, x.around(t, a), m.around(t, a));
            case 13 -> {
                int position = number(65);
                Due.answer(call + "depth of " + t + " at " + position, x.depth(t, position), m.depth(t, position));
            }
            case 14 -> Due.answer(call + "deepest " + t, x.deepest(t), m.deepest(t));
            case 15 -> Due.answer(call + "covered" + ti, x.covered(t, i), m.covered(t, i));
            case 16 -> Due.answer(call + "closest" + ta, x.closest(t, a), m.closest(t, a));
            case 17 -> Due.answer(call + "distance" + ta, x.distance(t, a), m.distance(t, a));
            case 18 -> Due.answer(call + "shared" + tu, x.shared(t, u), m.shared(t, u));
            default -> Due.answer(call + "meetings" + tu, x.meetings(t, u), m.meetings(t, u));
        }
    }

    private static int track() {
        return pick(40) == 0 ? number(5) : pick(3);
    }

    private static int stretch() {
        if (pick(30) == 0) {
            return number(4300);
        }
        int s = pick(64);
        int length = pick(3) == 0 ? 1 + pick(64 - s) : 1 + pick(Math.min(4, 64 - s));
        return Due.st(s, s + length);
    }

    /** Mostly 0 .. below - 1, small ones more often than large ones; now and then one from far away. */
    private static int number(int below) {
        if (pick(25) == 0) {
            return FAR[pick(FAR.length)];
        }
        return pick(2) == 0 ? pick(Math.min(4, below)) : pick(below);
    }

    private static int pick(int below) {
        seed = seed * 6364136223846793005L + 1442695040888963407L;
        return (int) ((seed >>> 33) % below);
    }
}
