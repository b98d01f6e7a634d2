/** Promises 10 to 21: each sentence's boundary cases. */
public final class QuestionBoundaryTest extends Boundary {
    public static void main(String[] args) {
        promise10();
        promise11();
        promise12();
        promise13();
        promise14();
        promise15();
        promise16();
        promise17();
        promise18();
        promise19();
        promise20();
        promise21();
        end();
    }

    /** A question to a track with the given list, in each of the three places beside two other full ones. */
    private static void asks(int[] list, int want, String method, int... rest) {
        for (int t = 0; t < 3; t++) {
            keeps(Tracks.FULL.with(t, list), want, method, Tracks.both(of(t), rest));
        }
    }

    private static void promise10() {
        sizeAnswersHowMany();
        sizeRefusesATrack();
    }

    private static void sizeAnswersHowMany() {
        sentence("10: How many stretches a track has");
        for (int n = 0; n <= 32; n++) {
            asks(Tracks.row(st(0, 9), 1, n), n, "size");
            asks(Tracks.row(LINE, 0, n), n, "size");
        }
    }

    private static void sizeRefusesATrack() {
        sentence("10: -1 if t is not good");
        refusesEachBad("size", 0);
    }

    private static void promise11() {
        stretchAnswersItsNumber();
        stretchRefusesATrack();
        stretchRefusesANumber();
        stretchTestsInOrder();
    }

    private static void stretchAnswersItsNumber() {
        sentence("11: The number 65 * s + e of a stretch");
        for (int one : of(st(0, 1), st(0, 64), st(63, 64))) {
            asks(of(one), one, "stretch", 0);
        }
        for (int i : of(0, 1, 30, 31)) {
            asks(EVEN, st(2 * i, 2 * i + 1), "stretch", i);
            asks(LINES, LINE, "stretch", i);
        }
        for (int i = 0; i < 6; i++) {
            keeps(Tracks.SOME, Tracks.SOME.track(0)[i], "stretch", 0, i);
        }
    }

    private static void stretchRefusesATrack() {
        sentence("11: -1 if t is not good");
        refusesEachBad("stretch", 0);
    }

    private static void stretchRefusesANumber() {
        sentence("11: -2 if i is not good");
        refusesEachBad("stretch", 1);
        for (int n : of(0, 1, 2, 31, 32)) {
            for (int i : of(MIN, -1, n, n + 1, MAX)) {
                asks(Tracks.row(st(0, 1), 1, n), -2, "stretch", i);
            }
        }
    }

    private static void stretchTestsInOrder() {
        sentence("11: -1 and -2 in the order named");
        refusesTheFirstBad("stretch");
    }

    private static void promise12() {
        overlappingAnswersHowMany();
        overlappingRefusesATrack();
        overlappingRefusesAStretch();
        overlappingTestsInOrder();
    }

    private static void overlappingAnswersHowMany() {
        sentence("12: How many stretches of the track overlap a stretch");
        for (int stretch : STRETCH.good()) {
            asks(of(), 0, "overlapping", stretch);
            asks(LINES, 32, "overlapping", stretch);
        }
        asks(of(st(20, 30)), 0, "overlapping", st(0, 20));
        asks(of(st(20, 30)), 1, "overlapping", st(0, 21));
        asks(of(st(20, 30)), 1, "overlapping", st(29, 64));
        asks(of(st(20, 30)), 0, "overlapping", st(30, 64));
        asks(of(st(20, 30)), 1, "overlapping", st(24, 25));
        asks(of(st(0, 1)), 1, "overlapping", st(0, 1));
        asks(of(st(0, 1)), 0, "overlapping", st(1, 2));
        asks(of(st(63, 64)), 1, "overlapping", st(63, 64));
        asks(of(st(63, 64)), 0, "overlapping", st(62, 63));
        asks(EVEN, 32, "overlapping", LINE);
        asks(EVEN, 31, "overlapping", st(0, 62));
        asks(EVEN, 31, "overlapping", st(1, 64));
        asks(EVEN, 0, "overlapping", st(63, 64));
        asks(EVEN, 0, "overlapping", st(1, 2));
        asks(EVEN, 1, "overlapping", st(1, 3));
    }

    private static void overlappingRefusesATrack() {
        sentence("12: -1 if t is not good");
        refusesEachBad("overlapping", 0);
    }

    private static void overlappingRefusesAStretch() {
        sentence("12: -2 if stretch is not good");
        refusesEachBad("overlapping", 1);
    }

    private static void overlappingTestsInOrder() {
        sentence("12: -1 and -2 in the order named");
        refusesTheFirstBad("overlapping");
    }

    private static void promise13() {
        overlapAnswersANumber();
        overlapRefusesATrack();
        overlapRefusesAStretch();
        overlapRefusesWhereThereIsNone();
        overlapTestsInOrder();
    }

    private static void overlapAnswersANumber() {
        sentence("13: The number i of the k-th stretch of the track that overlaps a stretch (k = 0 for the first)");
        for (int k = 0; k < 32; k++) {
            asks(LINES, k, "overlap", st(63, 64), k);
            asks(EVEN, k, "overlap", LINE, k);
            if (k < 31) {
                asks(EVEN, k + 1, "overlap", st(1, 64), k);
            }
        }
        asks(EVEN, 31, "overlap", st(61, 64), 0);
        asks(of(st(0, 1)), 0, "overlap", st(0, 1), 0);
        keeps(Tracks.SOME, 0, "overlap", 0, st(10, 11), 0);
        keeps(Tracks.SOME, 2, "overlap", 0, st(10, 11), 1);
        keeps(Tracks.SOME, 3, "overlap", 0, st(10, 11), 2);
        keeps(Tracks.SOME, 5, "overlap", 0, st(40, 64), 0);
        keeps(Tracks.SOME, 4, "overlap", 0, st(39, 64), 0);
    }

    private static void overlapRefusesATrack() {
        sentence("13: -1 if t is not good");
        refusesEachBad("overlap", 0);
    }

    private static void overlapRefusesAStretch() {
        sentence("13: -2 if stretch is not good");
        refusesEachBad("overlap", 1);
    }

    private static void overlapRefusesWhereThereIsNone() {
        sentence("13: -3 if there is none");
        refusesEachBad("overlap", 2);
        for (int k : of(MIN, -1, 0, 1, MAX)) {
            asks(of(), -3, "overlap", LINE, k);
            asks(of(st(20, 30)), -3, "overlap", st(0, 20), k);
            asks(of(st(20, 30)), -3, "overlap", st(30, 64), k);
        }
        for (int n = 0; n <= 32; n++) {
            asks(Tracks.row(LINE, 0, n), -3, "overlap", LINE, n);
        }
        asks(EVEN, -3, "overlap", st(0, 62), 31);
        asks(EVEN, -3, "overlap", st(63, 64), 0);
    }

    private static void overlapTestsInOrder() {
        sentence("13: -1, -2 and -3 in the order named");
        refusesTheFirstBad("overlap");
    }

    private static void promise14() {
        aroundAnswersHowMany();
        aroundRefusesATrack();
        aroundRefusesAStretch();
        aroundTestsInOrder();
    }

    private static void aroundAnswersHowMany() {
        sentence("14: How many stretches of the track a stretch lies in");
        for (int stretch : STRETCH.good()) {
            asks(of(), 0, "around", stretch);
            asks(LINES, 32, "around", stretch);
            asks(of(stretch), 1, "around", stretch);
        }
        asks(of(st(20, 30)), 1, "around", st(21, 30));
        asks(of(st(20, 30)), 1, "around", st(20, 29));
        asks(of(st(20, 30)), 0, "around", st(19, 30));
        asks(of(st(20, 30)), 0, "around", st(20, 31));
        asks(of(st(20, 30)), 0, "around", st(19, 31));
        asks(of(st(20, 30)), 0, "around", st(30, 31));
        asks(of(st(0, 63), st(1, 64)), 0, "around", LINE);
        asks(of(st(0, 63), st(1, 64)), 2, "around", st(1, 63));
        asks(EVEN, 1, "around", st(62, 63));
        asks(EVEN, 0, "around", st(62, 64));
        asks(EVEN, 0, "around", st(63, 64));
    }

    private static void aroundRefusesATrack() {
        sentence("14: -1 if t is not good");
        refusesEachBad("around", 0);
    }

    private static void aroundRefusesAStretch() {
        sentence("14: -2 if stretch is not good");
        refusesEachBad("around", 1);
    }

    private static void aroundTestsInOrder() {
        sentence("14: -1 and -2 in the order named");
        refusesTheFirstBad("around");
    }

    private static void promise15() {
        depthAnswersTheDepth();
        depthRefusesATrack();
        depthRefusesAPosition();
        depthTestsInOrder();
    }

    private static void depthAnswersTheDepth() {
        sentence("15: The depth at a position");
        for (int position : of(0, 1, 31, 32, 62, 63)) {
            asks(of(), 0, "depth", position);
            asks(LINES, 32, "depth", position);
            asks(EVEN, 1 - position % 2, "depth", position);
            asks(ODD, position % 2, "depth", position);
            asks(Tracks.both(Tracks.row(LINE, 0, 31), st(position, position + 1)), 32, "depth", position);
        }
        asks(of(st(20, 30)), 0, "depth", 19);
        asks(of(st(20, 30)), 1, "depth", 20);
        asks(of(st(20, 30)), 1, "depth", 29);
        asks(of(st(20, 30)), 0, "depth", 30);
    }

    private static void depthRefusesATrack() {
        sentence("15: -1 if t is not good");
        refusesEachBad("depth", 0);
    }

    private static void depthRefusesAPosition() {
        sentence("15: -2 if position is not in 0 .. 63");
        refusesEachBad("depth", 1);
    }

    private static void depthTestsInOrder() {
        sentence("15: -1 and -2 in the order named");
        refusesTheFirstBad("depth");
    }

    private static void promise16() {
        deepestAnswersTheGreatest();
        deepestRefusesATrack();
    }

    private static void deepestAnswersTheGreatest() {
        sentence("16: The greatest depth at a position");
        for (int n = 0; n <= 32; n++) {
            asks(Tracks.row(LINE, 0, n), n, "deepest");
            asks(Tracks.row(st(0, 1), 0, n), n, "deepest");
            asks(Tracks.row(st(63, 64), 0, n), n, "deepest");
            asks(Tracks.row(st(0, 1), 2, n), Math.min(n, 1), "deepest");
        }
        asks(Tracks.row(st(0, 33), 1, 32), 32, "deepest");
        asks(Tracks.row(st(0, 32), 1, 32), 32, "deepest");
        asks(Tracks.row(st(0, 31), 1, 32), 31, "deepest");
        asks(of(st(0, 20), st(20, 64)), 1, "deepest");
        asks(of(st(0, 21), st(20, 64)), 2, "deepest");
        asks(of(st(0, 64), st(0, 1), st(0, 1), st(63, 64)), 3, "deepest");
        asks(of(st(0, 64), st(0, 1), st(63, 64), st(63, 64)), 3, "deepest");
    }

    private static void deepestRefusesATrack() {
        sentence("16: -1 if t is not good");
        refusesEachBad("deepest", 0);
    }

    private static void promise17() {
        coveredAnswersHowMany();
        coveredRefusesATrack();
        coveredRefusesADepth();
        coveredTestsInOrder();
    }

    private static void coveredAnswersHowMany() {
        sentence("17: How many positions have a depth of at least d");
        for (int d = 0; d <= 32; d++) {
            asks(of(), d == 0 ? 64 : 0, "covered", d);
            asks(LINES, 64, "covered", d);
            asks(EVEN, d == 0 ? 64 : d == 1 ? 32 : 0, "covered", d);
            // d - 1 whole lines and one stretch at an end of the line: a depth of d is there alone.
            asks(Tracks.both(Tracks.row(LINE, 0, Math.max(d - 1, 0)), st(63, 64)), d == 0 ? 64 : 1, "covered", d);
            asks(Tracks.both(Tracks.row(LINE, 0, Math.max(d - 1, 0)), st(0, 1)), d == 0 ? 64 : 1, "covered", d);
        }
        asks(Tracks.row(LINE, 0, 31), 64, "covered", 31);
        asks(Tracks.row(LINE, 0, 31), 0, "covered", 32);
        asks(Tracks.row(st(0, 33), 1, 32), 2, "covered", 32);
        asks(Tracks.row(st(0, 33), 1, 32), 4, "covered", 31);
    }

    private static void coveredRefusesATrack() {
        sentence("17: -1 if t is not good");
        refusesEachBad("covered", 0);
    }

    private static void coveredRefusesADepth() {
        sentence("17: -2 if d is not in 0 .. 32");
        refusesEachBad("covered", 1);
    }

    private static void coveredTestsInOrder() {
        sentence("17: -1 and -2 in the order named");
        refusesTheFirstBad("covered");
    }

    private static void promise18() {
        closestAnswersTheNearest();
        closestAnswersTheFirstOfEquals();
        nearnessRefusals("18", "closest");
    }

    private static void closestAnswersTheNearest() {
        sentence("18: The number i of the stretch of the track whose distance from a stretch is least");
        asks(of(st(63, 64)), 0, "closest", st(0, 1));
        asks(of(st(0, 1)), 0, "closest", st(63, 64));
        asks(of(st(0, 1), st(63, 64)), 0, "closest", st(31, 32));
        asks(of(st(0, 1), st(63, 64)), 1, "closest", st(32, 33));
        asks(EVEN, 31, "closest", st(63, 64));
        asks(EVEN, 31, "closest", st(62, 63));
        asks(EVEN, 0, "closest", st(0, 1));
        asks(Tracks.both(Tracks.row(st(0, 1), 1, 31), st(40, 41)), 31, "closest", st(63, 64));
        asks(of(st(0, 50), st(20, 30)), 0, "closest", st(60, 61));
        asks(of(st(0, 9), st(20, 30)), 1, "closest", st(19, 20));
        asks(of(st(0, 9), st(20, 30)), 0, "closest", st(9, 10));
    }

    private static void closestAnswersTheFirstOfEquals() {
        sentence("18: the first, in its order, whose distance is least");
        for (int stretch : STRETCH.good()) {
            asks(LINES, 0, "closest", stretch);
            asks(Tracks.row(st(30, 31), 0, 32), 0, "closest", stretch);
        }
        asks(of(st(0, 10), st(21, 31)), 0, "closest", st(15, 16));
        asks(of(st(0, 10), st(20, 31)), 1, "closest", st(15, 16));
        asks(of(st(42, 52), st(63, 64)), 0, "closest", st(57, 58));
        asks(of(st(42, 52), st(62, 64)), 1, "closest", st(57, 58));
        asks(of(st(42, 51), st(63, 64)), 1, "closest", st(57, 58));
        asks(of(st(0, 10), st(10, 20)), 0, "closest", st(10, 11));
        asks(of(st(0, 10), st(12, 20)), 1, "closest", st(11, 13));
        asks(of(st(0, 10), st(12, 20)), 0, "closest", st(10, 12));
        asks(of(st(3, 9), st(3, 8)), 0, "closest", st(1, 2));
        asks(of(st(0, 9), st(3, 9), st(8, 9)), 0, "closest", st(50, 51));
        asks(of(st(0, 8), st(3, 9), st(8, 9)), 1, "closest", st(50, 51));
    }

    /** The refusals that closest and distance have in common. */
    private static void nearnessRefusals(String promise, String method) {
        sentence(promise + ": -1 if t is not good");
        refusesEachBad(method, 0);
        sentence(promise + ": -2 if stretch is not good");
        refusesEachBad(method, 1);
        sentence(promise + ": -3 if the track is empty");
        for (int stretch : STRETCH.good()) {
            asks(of(), -3, method, stretch);
            asks(of(stretch), 0, method, stretch);
        }
        sentence(promise + ": -1, -2 and -3 in the order named");
        refusesTheFirstBad(method);
        for (int stretch : STRETCH.bad()) {
            keeps(Tracks.EMPTY, -2, method, 0, stretch);
            keeps(Tracks.EMPTY, -1, method, 3, stretch);
        }
        keeps(Tracks.EMPTY, -1, method, -1, LINE);
    }

    private static void promise19() {
        distanceAnswersTheLeast();
        nearnessRefusals("19", "distance");
    }

    private static void distanceAnswersTheLeast() {
        sentence("19: That distance");
        asks(of(st(63, 64)), 62, "distance", st(0, 1));
        asks(of(st(0, 1)), 62, "distance", st(63, 64));
        asks(of(st(20, 30)), 1, "distance", st(18, 19));
        asks(of(st(20, 30)), 0, "distance", st(19, 20));
        asks(of(st(20, 30)), 0, "distance", st(20, 21));
        asks(of(st(20, 30)), 0, "distance", st(29, 30));
        asks(of(st(20, 30)), 0, "distance", st(30, 31));
        asks(of(st(20, 30)), 1, "distance", st(31, 32));
        asks(of(st(0, 1), st(63, 64)), 30, "distance", st(31, 32));
        asks(of(st(0, 1), st(63, 64)), 30, "distance", st(32, 33));
        asks(Tracks.both(Tracks.row(st(0, 1), 1, 31), st(40, 41)), 22, "distance", st(63, 64));
        asks(Tracks.row(st(0, 1), 0, 32), 62, "distance", st(63, 64));
        asks(of(st(0, 50), st(20, 30)), 10, "distance", st(60, 61));
        for (int stretch : STRETCH.good()) {
            asks(LINES, 0, "distance", stretch);
        }
    }

    private static void promise20() {
        sharedAnswersHowMany();
        sharedWithItself();
        sharedRefusesATrack();
    }

    /** A question to two different tracks with the given lists, in every pair of places and both ways round. */
    private static void asksBoth(int[] one, int[] other, int want, String method) {
        for (int t = 0; t < 3; t++) {
            for (int u = 0; u < 3; u++) {
                if (t != u) {
                    keeps(Tracks.FULL.with(t, one).with(u, other), want, method, t, u);
                }
            }
        }
    }

    private static void sharedAnswersHowMany() {
        sentence("20: How many positions are in the covers of both tracks");
        asksBoth(of(), of(), 0, "shared");
        asksBoth(of(), LINES, 0, "shared");
        asksBoth(LINES, of(), 0, "shared");
        asksBoth(LINES, LINES, 64, "shared");
        asksBoth(LINES, EVEN, 32, "shared");
        asksBoth(EVEN, ODD, 0, "shared");
        asksBoth(ODD, ODD, 32, "shared");
        asksBoth(of(st(0, 20)), of(st(20, 64)), 0, "shared");
        asksBoth(of(st(0, 21)), of(st(20, 64)), 1, "shared");
        asksBoth(of(st(0, 1)), of(st(0, 1)), 1, "shared");
        asksBoth(of(st(63, 64)), of(st(63, 64)), 1, "shared");
        asksBoth(of(LINE), of(st(0, 1), st(63, 64)), 2, "shared");
        asksBoth(of(st(5, 20), st(5, 20)), of(st(7, 9), st(7, 9)), 2, "shared");
    }

    private static void sharedWithItself() {
        sentence("20: both tracks may be the same one");
        for (int t = 0; t < 3; t++) {
            keeps(Tracks.EMPTY, 0, "shared", t, t);
            keeps(Tracks.FULL.with(t, LINES), 64, "shared", t, t);
            keeps(Tracks.FULL.with(t, EVEN), 32, "shared", t, t);
            keeps(Tracks.FULL.with(t, Tracks.SOME.track(0)), 26, "shared", t, t);
        }
    }

    private static void sharedRefusesATrack() {
        sentence("20: -1 if t or u is not good");
        refusesEachBad("shared", 0);
        refusesEachBad("shared", 1);
        refusesTheFirstBad("shared");
    }

    private static void promise21() {
        meetingsAnswersHowMany();
        meetingsWithItself();
        meetingsRefusesATrack();
    }

    private static void meetingsAnswersHowMany() {
        sentence("21: How many pairs of a stretch of t and a stretch of u overlap");
        asksBoth(of(), of(), 0, "meetings");
        asksBoth(of(), LINES, 0, "meetings");
        asksBoth(LINES, of(), 0, "meetings");
        asksBoth(LINES, LINES, 1024, "meetings");
        asksBoth(LINES, EVEN, 1024, "meetings");
        asksBoth(EVEN, ODD, 0, "meetings");
        asksBoth(EVEN, EVEN, 32, "meetings");
        asksBoth(Tracks.row(LINE, 0, 31), LINES, 992, "meetings");
        asksBoth(of(LINE), LINES, 32, "meetings");
        asksBoth(of(st(0, 20)), of(st(20, 64)), 0, "meetings");
        asksBoth(of(st(0, 21)), of(st(20, 64)), 1, "meetings");
        asksBoth(of(st(0, 1)), of(st(0, 1)), 1, "meetings");
        asksBoth(of(st(63, 64)), of(st(63, 64)), 1, "meetings");
        asksBoth(of(st(5, 20), st(5, 20)), of(st(7, 9), st(7, 9), st(20, 21)), 4, "meetings");
    }

    private static void meetingsWithItself() {
        sentence("21: t and u may be the same: then every stretch is paired with itself, too");
        for (int t = 0; t < 3; t++) {
            keeps(Tracks.FULL.with(t), 0, "meetings", t, t);
            keeps(Tracks.FULL.with(t, st(0, 1)), 1, "meetings", t, t);
            keeps(Tracks.FULL.with(t, st(0, 1), st(0, 1)), 4, "meetings", t, t);
            keeps(Tracks.FULL.with(t, st(0, 1), st(1, 2)), 2, "meetings", t, t);
            keeps(Tracks.FULL.with(t, EVEN), 32, "meetings", t, t);
            keeps(Tracks.FULL.with(t, LINES), 1024, "meetings", t, t);
        }
    }

    private static void meetingsRefusesATrack() {
        sentence("21: -1 if t or u is not good");
        refusesEachBad("meetings", 0);
        refusesEachBad("meetings", 1);
        refusesTheFirstBad("meetings");
    }
}
