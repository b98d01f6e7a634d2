/** Promises 10 to 21: the questions. */
public final class QuestionTest {
    public static void main(String[] args) {
        promise10Size();
        promise11Stretch();
        promise12Overlapping();
        promise13Overlap();
        promise14Around();
        promise15Depth();
        promise16Deepest();
        promise17Covered();
        promise18Closest();
        promise18ClosestTies();
        promise19Distance();
        promise20Shared();
        promise21Meetings();
        refusalsOfBadTracks();
        refusalsOfBadStretches();
        questionsChangeNothing();
        Due.end();
    }

    /** Track 0: 0 (5, 20), 1 (5, 10), 2 (8, 12), 3 (8, 12), 4 (30, 40), 5 (63, 64). */
    private static TrackAlgebra sample() {
        TrackAlgebra x = Due.with(Due.st(63, 64), Due.st(8, 12), Due.st(5, 10), Due.st(30, 40), Due.st(5, 20),
                Due.st(8, 12));
        Due.fill(x, 1, Due.st(0, 6), Due.st(10, 12), Due.st(12, 31));
        return x;
    }

    private static TrackAlgebra full() {
        TrackAlgebra x = new TrackAlgebra();
        for (int t = 0; t < 3; t++) {
            x.repeat(t, Due.st(t, 64), 0, 32);
        }
        return x;
    }

    private static void promise10Size() {
        TrackAlgebra x = sample();
        Due.answer("size(0)", x.size(0), 6);
        Due.answer("size(1)", x.size(1), 3);
        Due.answer("size(2)", x.size(2), 0);
        for (int t = 0; t < 3; t++) {
            Due.answer("size of a full track", full().size(t), 32);
        }
    }

    private static void promise11Stretch() {
        TrackAlgebra x = sample();
        int[] want = {Due.st(5, 20), Due.st(5, 10), Due.st(8, 12), Due.st(8, 12), Due.st(30, 40), Due.st(63, 64)};
        for (int i = 0; i < want.length; i++) {
            Due.answer("stretch(0, " + i + ")", x.stretch(0, i), want[i]);
        }
        for (int i : new int[] {-1, 6, 31, 32, 33, Due.MIN, Due.MAX}) {
            Due.answer("stretch(0, " + i + ")", x.stretch(0, i), -2);
        }
        Due.answer("stretch of an empty track", x.stretch(2, 0), -2);
        for (int t = 0; t < 3; t++) {
            Due.answer("the last of a full track", full().stretch(t, 31), Due.st(t, 64));
            Due.answer("behind the last of a full track", full().stretch(t, 32), -2);
            Due.answer("before the first of a full track", full().stretch(t, -1), -2);
        }
        x.remove(0, 5);
        Due.answer("a number that is no longer good", x.stretch(0, 5), -2);
    }

    private static void promise12Overlapping() {
        TrackAlgebra x = sample();
        Due.answer("overlapping: touching on the right", x.overlapping(0, Due.st(0, 5)), 0);
        Due.answer("overlapping: one position in", x.overlapping(0, Due.st(0, 6)), 2);
        Due.answer("overlapping: (9, 10)", x.overlapping(0, Due.st(9, 10)), 4);
        Due.answer("overlapping: (10, 11)", x.overlapping(0, Due.st(10, 11)), 3);
        Due.answer("overlapping: (12, 13)", x.overlapping(0, Due.st(12, 13)), 1);
        Due.answer("overlapping: touching on both sides", x.overlapping(0, Due.st(20, 30)), 0);
        Due.answer("overlapping: (19, 31)", x.overlapping(0, Due.st(19, 31)), 2);
        Due.answer("overlapping: around one", x.overlapping(0, Due.st(25, 50)), 1);
        Due.answer("overlapping: the line", x.overlapping(0, Due.st(0, 64)), 6);
        Due.answer("overlapping: the last position", x.overlapping(0, Due.st(63, 64)), 1);
        Due.answer("overlapping: (62, 63)", x.overlapping(0, Due.st(62, 63)), 0);
        Due.answer("overlapping an empty track", x.overlapping(2, Due.st(0, 64)), 0);
        Due.answer("overlapping a full track", full().overlapping(2, Due.st(0, 3)), 32);
    }

    private static void promise13Overlap() {
        TrackAlgebra x = sample();
        int[] want = {0, 2, 3, -3};
        for (int k = 0; k < want.length; k++) {
            Due.answer("overlap(0, (10, 12), " + k + ")", x.overlap(0, Due.st(10, 12), k), want[k]);
        }
        Due.answer("overlap of (31, 64), 0", x.overlap(0, Due.st(31, 64), 0), 4);
        Due.answer("overlap of (31, 64), 1", x.overlap(0, Due.st(31, 64), 1), 5);
        Due.answer("overlap of (31, 64), 2", x.overlap(0, Due.st(31, 64), 2), -3);
        Due.answer("overlap of touching ones", x.overlap(0, Due.st(20, 30), 0), -3);
        for (int k : new int[] {-1, 6, 32, Due.MIN, Due.MAX}) {
            Due.answer("overlap of the line, " + k, x.overlap(0, Due.st(0, 64), k), -3);
        }
        Due.answer("overlap(1, (11, 13), 0)", x.overlap(1, Due.st(11, 13), 0), 1);
        Due.answer("overlap(1, (11, 13), 1)", x.overlap(1, Due.st(11, 13), 1), 2);
        Due.answer("overlap of an empty track", x.overlap(2, Due.st(0, 64), 0), -3);
        Due.answer("the last overlap of a full track", full().overlap(1, Due.st(0, 64), 31), 31);
        Due.answer("one more overlap of a full track", full().overlap(1, Due.st(0, 64), 32), -3);
        Due.answer("overlap, stretch and k bad", x.overlap(0, 0, -1), -2);
        Due.answer("overlap, all bad", x.overlap(3, 0, -1), -1);
    }

    private static void promise14Around() {
        TrackAlgebra x = sample();
        Due.answer("around (8, 10)", x.around(0, Due.st(8, 10)), 4);
        Due.answer("around (5, 10)", x.around(0, Due.st(5, 10)), 2);
        Due.answer("around (5, 11)", x.around(0, Due.st(5, 11)), 1);
        Due.answer("around (8, 12)", x.around(0, Due.st(8, 12)), 3);
        Due.answer("around (7, 12)", x.around(0, Due.st(7, 12)), 1);
        Due.answer("around (5, 20)", x.around(0, Due.st(5, 20)), 1);
        Due.answer("around (5, 21)", x.around(0, Due.st(5, 21)), 0);
        Due.answer("around (4, 20)", x.around(0, Due.st(4, 20)), 0);
        Due.answer("around (63, 64)", x.around(0, Due.st(63, 64)), 1);
        Due.answer("around the line", x.around(0, Due.st(0, 64)), 0);
        Due.answer("around, empty track", x.around(2, Due.st(0, 1)), 0);
        Due.answer("around, full track", full().around(2, Due.st(2, 64)), 32);
        Due.answer("around, full track, one more", full().around(2, Due.st(1, 64)), 0);
    }

    private static void promise15Depth() {
        TrackAlgebra x = sample();
        int[][] want = {{0, 0}, {4, 0}, {5, 2}, {7, 2}, {8, 4}, {9, 4}, {10, 3}, {11, 3}, {12, 1}, {19, 1}, {20, 0},
            {29, 0}, {30, 1}, {39, 1}, {40, 0}, {62, 0}, {63, 1}};
        for (int[] row : want) {
            Due.answer("depth(0, " + row[0] + ")", x.depth(0, row[0]), row[1]);
        }
        for (int position : new int[] {-1, 64, Due.MIN, Due.MAX}) {
            Due.answer("depth(0, " + position + ")", x.depth(0, position), -2);
            Due.answer("depth(3, " + position + ")", x.depth(3, position), -1);
        }
        Due.answer("depth, empty track", x.depth(2, 0), 0);
        Due.answer("depth, full track", full().depth(0, 0), 32);
        Due.answer("depth, full track", full().depth(2, 1), 0);
    }

    private static void promise16Deepest() {
        TrackAlgebra x = sample();
        Due.answer("deepest(0)", x.deepest(0), 4);
        Due.answer("deepest(1): touching ones", x.deepest(1), 1);
        Due.answer("deepest(2): empty", x.deepest(2), 0);
        Due.answer("deepest, full track", full().deepest(1), 32);
        Due.answer("deepest at position 0", Due.with(Due.st(0, 1), Due.st(0, 9), Due.st(5, 6)).deepest(0), 2);
        Due.answer("deepest at position 63", Due.with(Due.st(63, 64), Due.st(60, 64), Due.st(60, 61)).deepest(0), 2);
        Due.answer("deepest only at position 63", Due.with(Due.st(63, 64)).deepest(0), 1);
        Due.answer("deepest only at position 0", Due.with(Due.st(0, 1)).deepest(0), 1);
    }

    private static void promise17Covered() {
        TrackAlgebra x = sample();
        int[] want = {64, 26, 7, 4, 2, 0, 0};
        for (int d = 0; d < want.length; d++) {
            Due.answer("covered(0, " + d + ")", x.covered(0, d), want[d]);
        }
        Due.answer("covered(0, 32)", x.covered(0, 32), 0);
        for (int d : new int[] {-1, 33, Due.MIN, Due.MAX}) {
            Due.answer("covered(0, " + d + ")", x.covered(0, d), -2);
            Due.answer("covered(3, " + d + ")", x.covered(3, d), -1);
        }
        Due.answer("covered, empty track, 0", x.covered(2, 0), 64);
        Due.answer("covered, empty track, 1", x.covered(2, 1), 0);
        Due.answer("covered, full track, 32", full().covered(0, 32), 64);
        Due.answer("covered, full track, 32", full().covered(2, 32), 62);
    }

    private static void promise18Closest() {
        TrackAlgebra x = sample();
        Due.answer("closest to (0, 3)", x.closest(0, Due.st(0, 3)), 0);
        Due.answer("closest to (22, 24): left", x.closest(0, Due.st(22, 24)), 0);
        Due.answer("closest to (26, 29): right", x.closest(0, Due.st(26, 29)), 4);
        Due.answer("closest to (35, 36)", x.closest(0, Due.st(35, 36)), 4);
        Due.answer("closest to (50, 60)", x.closest(0, Due.st(50, 60)), 5);
        Due.answer("closest to (45, 52)", x.closest(0, Due.st(45, 52)), 4);
        Due.answer("closest to (63, 64)", x.closest(0, Due.st(63, 64)), 5);
        Due.answer("closest on track 1 to (50, 51)", x.closest(1, Due.st(50, 51)), 2);
        Due.answer("closest on track 1 to (7, 8)", x.closest(1, Due.st(7, 8)), 0);
        Due.answer("closest, farthest apart", Due.with(Due.st(0, 1)).closest(0, Due.st(63, 64)), 0);
        Due.answer("closest, farthest apart", Due.with(Due.st(63, 64)).closest(0, Due.st(0, 1)), 0);
        for (int s = 0; s < 64; s++) {
            Due.answer("closest, empty track", x.closest(2, Due.st(s, 64)), -3);
        }
        Due.answer("closest, full track with a better last", lastIsBest().closest(0, Due.st(62, 63)), 31);
    }

    private static TrackAlgebra lastIsBest() {
        TrackAlgebra x = new TrackAlgebra();
        x.repeat(0, Due.st(0, 1), 1, 31);
        x.add(0, Due.st(40, 41));
        return x;
    }

    private static void promise18ClosestTies() {
        TrackAlgebra x = sample();
        Due.answer("closest, as far to the left as to the right", x.closest(0, Due.st(24, 26)), 0);
        Due.answer("closest, two equal ones", Due.with(Due.st(1, 2), Due.st(8, 12), Due.st(8, 12))
                .closest(0, Due.st(14, 15)), 1);
        TrackAlgebra y = Due.with(Due.st(0, 5), Due.st(3, 10), Due.st(5, 7), Due.st(10, 11));
        Due.answer("closest: one that touches is as near as one that overlaps", y.closest(0, Due.st(5, 6)), 0);
        Due.answer("closest: the first of two that touch", y.closest(0, Due.st(11, 12)), 3);
        Due.answer("closest: touching on the right", y.closest(0, Due.st(10, 11)), 1);
        TrackAlgebra z = Due.with(Due.st(2, 20), Due.st(2, 4), Due.st(6, 20));
        Due.answer("closest: a longer one may end nearer", z.closest(0, Due.st(30, 31)), 0);
        Due.answer("closest: a farther start may end nearer",
                Due.with(Due.st(0, 30), Due.st(10, 12)).closest(0, Due.st(33, 34)), 0);
    }

    private static void promise19Distance() {
        TrackAlgebra x = sample();
        Due.answer("distance of (0, 3)", x.distance(0, Due.st(0, 3)), 2);
        Due.answer("distance of (0, 5): touching", x.distance(0, Due.st(0, 5)), 0);
        Due.answer("distance of (0, 4)", x.distance(0, Due.st(0, 4)), 1);
        Due.answer("distance of (22, 24)", x.distance(0, Due.st(22, 24)), 2);
        Due.answer("distance of (20, 21): touching", x.distance(0, Due.st(20, 21)), 0);
        Due.answer("distance of (21, 22)", x.distance(0, Due.st(21, 22)), 1);
        Due.answer("distance of (24, 26)", x.distance(0, Due.st(24, 26)), 4);
        Due.answer("distance of (26, 29)", x.distance(0, Due.st(26, 29)), 1);
        Due.answer("distance of (9, 10): overlapping", x.distance(0, Due.st(9, 10)), 0);
        Due.answer("distance of the line", x.distance(0, Due.st(0, 64)), 0);
        Due.answer("distance on track 1 of (50, 51)", x.distance(1, Due.st(50, 51)), 19);
        Due.answer("distance on track 1 of (7, 8)", x.distance(1, Due.st(7, 8)), 1);
        Due.answer("distance, farthest apart", Due.with(Due.st(0, 1)).distance(0, Due.st(63, 64)), 62);
        Due.answer("distance, farthest apart", Due.with(Due.st(63, 64)).distance(0, Due.st(0, 1)), 62);
        Due.answer("distance, empty track", x.distance(2, 1), -3);
        Due.answer("distance, full track with a better last", lastIsBest().distance(0, Due.st(62, 63)), 21);
    }

    private static void promise20Shared() {
        TrackAlgebra x = sample();
        // Position 5, positions 10 to 19, and position 30.
        Due.answer("shared(0, 1)", x.shared(0, 1), 1 + 10 + 1);
        Due.answer("shared(1, 0)", x.shared(1, 0), 1 + 10 + 1);
        Due.answer("shared(0, 0)", x.shared(0, 0), 26);
        Due.answer("shared(1, 1)", x.shared(1, 1), 27);
        Due.answer("shared with an empty one", x.shared(0, 2), 0);
        Due.answer("shared of empty ones", x.shared(2, 2), 0);
        Due.answer("shared of the line", full().shared(0, 0), 64);
        Due.answer("shared of full ones", full().shared(1, 2), 62);
        TrackAlgebra y = Due.with(Due.st(0, 10), Due.st(63, 64));
        Due.fill(y, 1, Due.st(10, 20), Due.st(63, 64));
        Due.answer("shared: touching is not sharing", y.shared(0, 1), 1);
    }

    private static void promise21Meetings() {
        TrackAlgebra x = sample();
        // (5, 20) meets all three; (5, 10) the first; both (8, 12) the second; (30, 40) the third.
        Due.answer("meetings(0, 1)", x.meetings(0, 1), 3 + 1 + 2 + 1);
        Due.answer("meetings(1, 0)", x.meetings(1, 0), 3 + 1 + 2 + 1);
        Due.answer("meetings(0, 0)", x.meetings(0, 0), 16 + 2);
        Due.answer("meetings(1, 1): touching ones", x.meetings(1, 1), 3);
        Due.answer("meetings with an empty one", x.meetings(0, 2), 0);
        Due.answer("meetings of an empty one", x.meetings(2, 0), 0);
        Due.answer("meetings of empty ones", x.meetings(2, 2), 0);
        Due.answer("meetings of full ones", full().meetings(0, 1), 1024);
        Due.answer("meetings of a full one with itself", full().meetings(2, 2), 1024);
    }

    private static void refusalsOfBadTracks() {
        TrackAlgebra x = sample();
        for (int t : Due.BAD_TRACKS) {
            Due.answer("size(" + t + ")", x.size(t), -1);
            Due.answer("stretch(" + t + ", 0)", x.stretch(t, 0), -1);
            Due.answer("stretch(" + t + ", -1)", x.stretch(t, -1), -1);
            Due.answer("depth(" + t + ", 0)", x.depth(t, 0), -1);
            Due.answer("deepest(" + t + ")", x.deepest(t), -1);
            Due.answer("covered(" + t + ", 0)", x.covered(t, 0), -1);
            for (int stretch : new int[] {1, 0}) {
                Due.answer("overlapping(" + t + ", " + stretch + ")", x.overlapping(t, stretch), -1);
                Due.answer("overlap(" + t + ", " + stretch + ", 0)", x.overlap(t, stretch, 0), -1);
                Due.answer("around(" + t + ", " + stretch + ")", x.around(t, stretch), -1);
                Due.answer("closest(" + t + ", " + stretch + ")", x.closest(t, stretch), -1);
                Due.answer("distance(" + t + ", " + stretch + ")", x.distance(t, stretch), -1);
            }
            Due.answer("shared(" + t + ", 0)", x.shared(t, 0), -1);
            Due.answer("shared(0, " + t + ")", x.shared(0, t), -1);
            Due.answer("shared(" + t + ", " + t + ")", x.shared(t, t), -1);
            Due.answer("meetings(" + t + ", 0)", x.meetings(t, 0), -1);
            Due.answer("meetings(0, " + t + ")", x.meetings(0, t), -1);
            Due.answer("meetings(" + t + ", " + t + ")", x.meetings(t, t), -1);
        }
    }

    private static void refusalsOfBadStretches() {
        TrackAlgebra x = sample();
        for (int stretch : Due.BAD_STRETCHES) {
            // Track 2 is empty: a bad stretch is told before that.
            for (int t : new int[] {0, 2}) {
                String rest = "(" + t + ", " + stretch + ")";
                Due.answer("overlapping" + rest, x.overlapping(t, stretch), -2);
                Due.answer("overlap" + rest, x.overlap(t, stretch, 0), -2);
                Due.answer("around" + rest, x.around(t, stretch), -2);
                Due.answer("closest" + rest, x.closest(t, stretch), -2);
                Due.answer("distance" + rest, x.distance(t, stretch), -2);
            }
        }
    }

    private static void questionsChangeNothing() {
        TrackAlgebra x = sample();
        String before = Due.state(x);
        for (int t = -1; t <= 3; t++) {
            x.size(t);
            x.deepest(t);
            for (int n : new int[] {-1, 0, 1, 5, 64, Due.st(8, 12)}) {
                x.stretch(t, n);
                x.overlapping(t, n);
                x.overlap(t, n, 1);
                x.around(t, n);
                x.depth(t, n);
                x.covered(t, n);
                x.closest(t, n);
                x.distance(t, n);
                x.shared(t, n);
                x.meetings(t, n);
            }
        }
        Due.holds("the questions", x, before);
    }
}
