import java.util.Arrays;

/** Promises 1 to 9: each sentence's boundary cases. */
public final class ChangeBoundaryTest extends Boundary {
    public static void main(String[] args) {
        promise1();
        promise2();
        promise3();
        promise4();
        promise5();
        promise6();
        promise7();
        promise8();
        promise9();
        end();
    }

    private static void promise1() {
        allTracksAreEmptyAtFirst();
        anotherObjectIsNoMatter();
    }

    private static void allTracksAreEmptyAtFirst() {
        sentence("1: All tracks are empty");
        for (int t = 0; t < 3; t++) {
            keeps(Tracks.EMPTY, 0, "size", t);
            keeps(Tracks.EMPTY, -2, "stretch", t, 0);
            keeps(Tracks.EMPTY, -2, "remove", t, 0);
            keeps(Tracks.EMPTY, 0, "clear", t, LINE);
            keeps(Tracks.EMPTY, 0, "merge", t);
            keeps(Tracks.EMPTY, 0, "overlapping", t, LINE);
            keeps(Tracks.EMPTY, 0, "deepest", t);
            keeps(Tracks.EMPTY, 0, "covered", t, 1);
            keeps(Tracks.EMPTY, -3, "closest", t, LINE);
        }
    }

    private static void anotherObjectIsNoMatter() {
        sentence("1: All tracks are empty, whatever another object holds");
        TrackAlgebra other = Tracks.FULL.object();
        for (int t = 0; t < 3; t++) {
            keeps(Tracks.EMPTY, 0, "size", t);
            makes(Tracks.EMPTY, Tracks.EMPTY.with(t, 1), 1, "add", t, 1);
        }
        Due.holds("calls on other objects", other, Tracks.FULL.text());
    }

    private static void promise2() {
        addPutsAStretchIn();
        addPutsInBesideFullTracks();
        addRefusesATrack();
        addRefusesAStretch();
        addRefusesAThirtyThird();
        addAnswersHowMany();
        addTestsInOrder();
    }

    private static void addPutsAStretchIn() {
        sentence("2: Puts a stretch into a track");
        for (int stretch : of(st(0, 1), st(0, 64), st(31, 32), st(63, 64))) {
            for (int t = 0; t < 3; t++) {
                makes(Tracks.EMPTY, Tracks.EMPTY.with(t, stretch), 1, "add", t, stretch);
            }
        }
        makes(Tracks.SOME, Tracks.SOME.with(1, st(0, 64), st(0, 6), st(10, 12), st(12, 31)), 4, "add", 1, st(0, 64));
        makes(Tracks.SOME, Tracks.SOME.with(1, st(0, 6), st(0, 5), st(10, 12), st(12, 31)), 4, "add", 1, st(0, 5));
        makes(Tracks.SOME, Tracks.SOME.with(1, st(0, 6), st(10, 12), st(12, 31), st(12, 30)), 4, "add", 1, st(12, 30));
        makes(Tracks.SOME, Tracks.SOME.with(1, st(0, 6), st(10, 12), st(12, 31), st(12, 31)), 4, "add", 1, st(12, 31));
        makes(Tracks.SOME, Tracks.SOME.with(2, st(20, 22), st(20, 21)), 2, "add", 2, st(20, 22));
        makes(Tracks.SOME, Tracks.SOME.with(2, st(20, 21), st(21, 22)), 2, "add", 2, st(21, 22));
        makes(Tracks.SOME, Tracks.SOME.with(2, st(19, 20), st(20, 21)), 2, "add", 2, st(19, 20));
    }

    private static void addPutsInBesideFullTracks() {
        sentence("2: Puts a stretch into a track, and into no other one");
        int[] middle = Tracks.row(st(1, 3), 1, 31);
        for (int t = 0; t < 3; t++) {
            Tracks nearly = Tracks.FULL.with(t, middle);
            makes(nearly, Tracks.FULL.with(t, Tracks.both(of(st(0, 1)), middle)), 32, "add", t, st(0, 1));
            makes(nearly, Tracks.FULL.with(t, Tracks.both(middle, st(63, 64))), 32, "add", t, st(63, 64));
            makes(Tracks.FULL.with(t), Tracks.FULL.with(t, st(9, 11)), 1, "add", t, st(9, 11));
        }
    }

    private static void addRefusesATrack() {
        sentence("2: -1 if t is not good");
        refusesEachBad("add", 0);
    }

    private static void addRefusesAStretch() {
        sentence("2: -2 if stretch is not good");
        refusesEachBad("add", 1);
    }

    private static void addRefusesAThirtyThird() {
        sentence("2: -3 if the track has 32");
        for (int stretch : STRETCH.good()) {
            for (int t = 0; t < 3; t++) {
                keeps(Tracks.FULL, -3, "add", t, stretch);
            }
            keeps(Tracks.MIXED, -3, "add", 0, stretch);
        }
        makes(Tracks.MIXED, Tracks.MIXED.with(2, ODD), 32, "add", 2, st(63, 64));
    }

    private static void addAnswersHowMany() {
        sentence("2: otherwise answers how many it has now");
        for (int t = 0; t < 3; t++) {
            for (int n = 0; n < 32; n++) {
                Tracks before = Tracks.SOME.with(t, Tracks.row(st(0, 9), 1, n));
                makes(before, before.with(t, Tracks.row(st(0, 9), 1, n + 1)), n + 1, "add", t, st(n, n + 9));
            }
        }
    }

    private static void addTestsInOrder() {
        sentence("2: -1, -2 and -3 in the order named");
        refusesTheFirstBad("add");
        for (int stretch : STRETCH.bad()) {
            keeps(Tracks.FULL, -2, "add", 0, stretch);
            keeps(Tracks.FULL, -1, "add", 3, stretch);
        }
        keeps(Tracks.FULL, -1, "add", -1, 1);
    }

    private static void promise3() {
        repeatPutsIn();
        repeatGoesAsFarAsTheyAreGood();
        repeatGoesAsFarAsThereIsRoom();
        repeatPutsInLikeAdd();
        repeatRefusesATrack();
        repeatRefusesAStretch();
        repeatRefusesAStep();
        repeatRefusesACount();
        repeatAnswersHowMany();
        repeatTestsInOrder();
    }

    private static void repeatPutsIn() {
        sentence("3: the stretches (s + k * step, e + k * step) for k = 0 .. count - 1");
        for (int t = 0; t < 3; t++) {
            for (int count : of(1, 2, 31, 32)) {
                Tracks up = Tracks.EMPTY.with(t, Tracks.row(st(0, 2), 1, count));
                makes(Tracks.EMPTY, up, count, "repeat", t, st(0, 2), 1, count);
                Tracks down = Tracks.EMPTY.with(t, Tracks.row(st(63 - count, 65 - count), 1, count));
                makes(Tracks.EMPTY, down, count, "repeat", t, st(62, 64), -1, count);
                Tracks there = Tracks.EMPTY.with(t, Tracks.row(st(7, 50), 0, count));
                makes(Tracks.EMPTY, there, count, "repeat", t, st(7, 50), 0, count);
            }
        }
        makes(Tracks.EMPTY, Tracks.EMPTY.with(0, EVEN), 32, "repeat", 0, st(0, 1), 2, 32);
        makes(Tracks.EMPTY, Tracks.EMPTY.with(0, ODD), 32, "repeat", 0, st(63, 64), -2, 32);
        makes(Tracks.EMPTY, Tracks.EMPTY.with(0, st(0, 1), st(63, 64)), 2, "repeat", 0, st(0, 1), 63, 2);
        makes(Tracks.EMPTY, Tracks.EMPTY.with(0, st(0, 1), st(63, 64)), 2, "repeat", 0, st(63, 64), -63, 2);
    }

    private static void repeatGoesAsFarAsTheyAreGood() {
        sentence("3: as far as they are good");
        makes(Tracks.EMPTY, Tracks.EMPTY.with(0, st(60, 62), st(62, 64)), 2, "repeat", 0, st(60, 62), 2, 3);
        makes(Tracks.EMPTY, Tracks.EMPTY.with(0, st(60, 62)), 1, "repeat", 0, st(60, 62), 3, 2);
        makes(Tracks.EMPTY, Tracks.EMPTY.with(0, st(0, 2), st(2, 4)), 2, "repeat", 0, st(2, 4), -2, 3);
        makes(Tracks.EMPTY, Tracks.EMPTY.with(0, st(2, 4)), 1, "repeat", 0, st(2, 4), -3, 2);
        for (int count : COUNT.good()) {
            for (int stretch : of(st(0, 1), st(0, 64), st(20, 40), st(63, 64))) {
                Tracks one = Tracks.EMPTY.with(1, stretch);
                makes(Tracks.EMPTY, one, 1, "repeat", 1, stretch, 64, count);
                makes(Tracks.EMPTY, one, 1, "repeat", 1, stretch, -64, count);
            }
            makes(Tracks.EMPTY, Tracks.EMPTY.with(2, LINE), 1, "repeat", 2, LINE, 1, count);
            makes(Tracks.EMPTY, Tracks.EMPTY.with(2, LINE), 1, "repeat", 2, LINE, -1, count);
            makes(Tracks.EMPTY, Tracks.EMPTY.with(2, Tracks.row(LINE, 0, count)), count, "repeat", 2, LINE, 0, count);
        }
    }

    private static void repeatGoesAsFarAsThereIsRoom() {
        sentence("3: as far as there is room");
        for (int t = 0; t < 3; t++) {
            Tracks nearly = Tracks.FULL.with(t, Tracks.row(LINE, 0, 31));
            for (int count : of(1, 2, 31, 32)) {
                Tracks up = nearly.with(t, Tracks.both(nearly.track(t), st(1, 2)));
                makes(nearly, up, 32, "repeat", t, st(1, 2), 1, count);
                Tracks down = nearly.with(t, Tracks.both(nearly.track(t), st(63, 64)));
                makes(nearly, down, 32, "repeat", t, st(63, 64), -1, count);
                keeps(Tracks.FULL, 32, "repeat", t, st(0, 1), 1, count);
                keeps(Tracks.FULL, 32, "repeat", t, LINE, 64, count);
                keeps(Tracks.FULL, 32, "repeat", t, st(63, 64), -64, count);
            }
            Tracks two = Tracks.FULL.with(t, Tracks.row(LINE, 0, 30));
            Tracks full = two.with(t, Tracks.both(two.track(t), st(9, 10), st(10, 11)));
            makes(two, full, 32, "repeat", t, st(10, 11), -1, 3);
        }
    }

    private static void repeatPutsInLikeAdd() {
        sentence("3: Puts in, one after the other like add");
        makes(Tracks.SOME, Tracks.SOME.with(1, st(0, 6), st(9, 14), st(10, 15), st(10, 12), st(11, 16), st(12, 31)), 6,
                "repeat", 1, st(9, 14), 1, 3);
        makes(Tracks.SOME, Tracks.SOME.with(2, st(0, 1), st(20, 21), st(20, 21), st(40, 41)), 4,
                "repeat", 2, st(40, 41), -20, 32);
    }

    private static void repeatRefusesATrack() {
        sentence("3: -1 if t is not good");
        refusesEachBad("repeat", 0);
    }

    private static void repeatRefusesAStretch() {
        sentence("3: -2 if stretch is not good");
        refusesEachBad("repeat", 1);
    }

    private static void repeatRefusesAStep() {
        sentence("3: -3 if step is not in -64 .. 64");
        refusesEachBad("repeat", 2);
    }

    private static void repeatRefusesACount() {
        sentence("3: -4 if count is not in 1 .. 32");
        refusesEachBad("repeat", 3);
    }

    private static void repeatAnswersHowMany() {
        sentence("3: otherwise answers how many stretches the track has now");
        for (int n = 0; n <= 32; n++) {
            Tracks before = Tracks.MIXED.with(1, Tracks.row(st(0, 9), 1, n));
            for (int count : of(1, 2, 31, 32)) {
                int now = Math.min(n + count, 32);
                Tracks after = before.with(1, Tracks.both(before.track(1), Tracks.row(st(40, 50), 0, now - n)));
                makes(before, after, now, "repeat", 1, st(40, 50), 0, count);
            }
        }
    }

    private static void repeatTestsInOrder() {
        sentence("3: -1, -2, -3 and -4 in the order named");
        refusesTheFirstBad("repeat");
    }

    private static void promise4() {
        removeTakesOut();
        removeRefusesATrack();
        removeRefusesANumber();
        removeAnswersHowManyAreLeft();
        removeTestsInOrder();
    }

    private static void removeTakesOut() {
        sentence("4: Takes a stretch out");
        for (int t = 0; t < 3; t++) {
            Tracks full = Tracks.FULL.with(t, EVEN);
            makes(full, full.with(t, Tracks.row(st(2, 3), 2, 31)), 31, "remove", t, 0);
            makes(full, full.with(t, Tracks.row(st(0, 1), 2, 31)), 31, "remove", t, 31);
            int[] left = Tracks.both(Tracks.row(st(0, 1), 2, 30), st(62, 63));
            makes(full, full.with(t, left), 31, "remove", t, 30);
            makes(full.with(t, LINE), full.with(t), 0, "remove", t, 0);
        }
        Tracks equal = Tracks.EMPTY.with(1, LINE, LINE, LINE);
        for (int i = 0; i < 3; i++) {
            makes(equal, equal.with(1, LINE, LINE), 2, "remove", 1, i);
        }
    }

    private static void removeRefusesATrack() {
        sentence("4: -1 if t is not good");
        refusesEachBad("remove", 0);
    }

    private static void removeRefusesANumber() {
        sentence("4: -2 if i is not good");
        refusesEachBad("remove", 1);
        for (int t = 0; t < 3; t++) {
            for (int n : of(0, 1, 2, 31, 32)) {
                Tracks tracks = Tracks.FULL.with(t, Tracks.row(st(0, 1), 1, n));
                for (int i : of(MIN, -1, n, n + 1, MAX)) {
                    keeps(tracks, -2, "remove", t, i);
                }
            }
        }
    }

    private static void removeAnswersHowManyAreLeft() {
        sentence("4: otherwise answers how many are left");
        for (int n = 1; n <= 32; n++) {
            Tracks before = Tracks.MIXED.with(1, Tracks.row(LINE, 0, n));
            Tracks after = before.with(1, Tracks.row(LINE, 0, n - 1));
            makes(before, after, n - 1, "remove", 1, 0);
            makes(before, after, n - 1, "remove", 1, n - 1);
        }
    }

    private static void removeTestsInOrder() {
        sentence("4: -1 and -2 in the order named");
        refusesTheFirstBad("remove");
    }

    private static void promise5() {
        clearTakesOutWhatLiesIn();
        clearLeavesWhatSticksOut();
        clearRefusesATrack();
        clearRefusesAStretch();
        clearAnswersHowMany();
        clearTestsInOrder();
    }

    private static void clearTakesOutWhatLiesIn() {
        sentence("5: Takes all stretches out that lie in a stretch");
        for (int t = 0; t < 3; t++) {
            makes(Tracks.FULL, Tracks.FULL.with(t), 32, "clear", t, LINE);
            for (int stretch : of(st(0, 1), st(0, 64), st(20, 30), st(63, 64))) {
                makes(Tracks.SOME.with(t, stretch), Tracks.SOME.with(t), 1, "clear", t, stretch);
            }
        }
        makes(Tracks.SOME, Tracks.SOME.with(0, st(5, 20), st(5, 10), st(30, 40), st(63, 64)), 2, "clear", 0, st(8, 12));
        makes(Tracks.SOME, Tracks.SOME.with(0, st(30, 40), st(63, 64)), 4, "clear", 0, st(5, 20));
        makes(Tracks.SOME, Tracks.SOME.with(0, st(63, 64)), 5, "clear", 0, st(0, 63));
    }

    private static void clearLeavesWhatSticksOut() {
        sentence("5: Takes out no stretch that does not lie in it");
        Tracks one = Tracks.FULL.with(1, st(20, 30));
        for (int stretch : of(st(21, 30), st(20, 29), st(0, 29), st(21, 64), st(0, 20), st(30, 64), st(24, 25))) {
            keeps(one, 0, "clear", 1, stretch);
        }
        for (int stretch : of(st(19, 30), st(20, 31), st(20, 30))) {
            makes(one, one.with(1), 1, "clear", 1, stretch);
        }
        keeps(Tracks.FULL, 0, "clear", 0, st(0, 63));
        keeps(Tracks.FULL, 0, "clear", 0, st(1, 64));
        makes(Tracks.FULL, Tracks.FULL.with(1, st(0, 1), st(62, 63)), 30, "clear", 1, st(1, 62));
        makes(Tracks.FULL, Tracks.FULL.with(1, st(0, 1)), 31, "clear", 1, st(1, 63));
    }

    private static void clearRefusesATrack() {
        sentence("5: -1 if t is not good");
        refusesEachBad("clear", 0);
    }

    private static void clearRefusesAStretch() {
        sentence("5: -2 if stretch is not good");
        refusesEachBad("clear", 1);
    }

    private static void clearAnswersHowMany() {
        sentence("5: otherwise answers how many those were");
        for (int t = 0; t < 3; t++) {
            for (int n = 0; n <= 32; n++) {
                int[] combed = Tracks.row(st(2 * n, 2 * n + 1), 2, 32 - n);
                Tracks before = Tracks.FULL.with(t, EVEN);
                if (n > 0) {
                    makes(before, before.with(t, combed), n, "clear", t, st(0, 2 * n));
                }
                makes(before.with(t, Tracks.row(LINE, 0, n)), before.with(t), n, "clear", t, LINE);
            }
        }
    }

    private static void clearTestsInOrder() {
        sentence("5: -1 and -2 in the order named");
        refusesTheFirstBad("clear");
    }

    private static void promise6() {
        mergeMakesRuns();
        mergeRefusesATrack();
        mergeAnswersHowMany();
    }

    private static void mergeMakesRuns() {
        sentence("6: The track becomes the list of the runs of its cover");
        for (int t = 0; t < 3; t++) {
            Tracks full = Tracks.FULL;
            keeps(full.with(t), 0, "merge", t);
            makes(full.with(t, LINES), full.with(t, LINE), 1, "merge", t);
            keeps(full.with(t, EVEN), 32, "merge", t);
            keeps(full.with(t, ODD), 32, "merge", t);
            makes(full.with(t, Tracks.row(st(0, 2), 2, 32)), full.with(t, LINE), 1, "merge", t);
            makes(full.with(t, Tracks.row(st(0, 1), 1, 32)), full.with(t, st(0, 32)), 1, "merge", t);
            makes(full.with(t, st(3, 7), st(7, 9)), full.with(t, st(3, 9)), 1, "merge", t);
            keeps(full.with(t, st(3, 7), st(8, 9)), 2, "merge", t);
            makes(full.with(t, st(3, 7), st(6, 9)), full.with(t, st(3, 9)), 1, "merge", t);
            makes(full.with(t, st(3, 9), st(4, 5)), full.with(t, st(3, 9)), 1, "merge", t);
            keeps(full.with(t, st(0, 1), st(63, 64)), 2, "merge", t);
            makes(full.with(t, st(0, 63), st(63, 64)), full.with(t, LINE), 1, "merge", t);
        }
    }

    private static void mergeRefusesATrack() {
        sentence("6: -1 if t is not good");
        refusesEachBad("merge", 0);
    }

    private static void mergeAnswersHowMany() {
        sentence("6: otherwise answers how many those are");
        for (int n = 0; n <= 32; n++) {
            keeps(Tracks.MIXED.with(1, Tracks.row(st(0, 1), 2, n)), n, "merge", 1);
            keeps(Tracks.MIXED.with(1, Arrays.copyOfRange(ODD, 32 - n, 32)), n, "merge", 1);
        }
    }

    private static void promise7() {
        joinBoth();
        joinAtLeastOne();
        joinJustOne();
        joinWithout();
        joinWithItself();
        joinRefusesAKind();
        joinRefusesATrack();
        joinAnswersHowMany();
        joinTestsInOrder();
    }

    /** What join makes of a track with one list and a track with the other, in every pair of places. */
    private static void joins(int kind, int[] one, int[] other, int... want) {
        for (int t = 0; t < 3; t++) {
            for (int u = 0; u < 3; u++) {
                if (t != u) {
                    Tracks before = Tracks.FULL.with(t, one).with(u, other);
                    makes(before, before.with(t, want), want.length, "join", kind, t, u);
                }
            }
        }
    }

    private static void joinBoth() {
        sentence("7: kind 0 the positions in the covers of both tracks");
        joins(0, of(), of());
        joins(0, of(), of(LINE));
        joins(0, of(LINE), of());
        joins(0, EVEN, ODD);
        joins(0, of(LINE), EVEN, EVEN);
        joins(0, ODD, of(LINE), ODD);
        joins(0, of(st(3, 7)), of(st(7, 9)));
        joins(0, of(st(3, 8)), of(st(7, 9)), st(7, 8));
        joins(0, of(st(0, 1), st(63, 64)), of(st(0, 2), st(62, 64)), st(0, 1), st(63, 64));
    }

    private static void joinAtLeastOne() {
        sentence("7: 1 in at least one");
        joins(1, of(), of());
        joins(1, of(), EVEN, EVEN);
        joins(1, ODD, of(), ODD);
        joins(1, EVEN, ODD, LINE);
        joins(1, LINES, LINES, LINE);
        joins(1, of(st(3, 7)), of(st(7, 9)), st(3, 9));
        joins(1, of(st(3, 7)), of(st(8, 9)), st(3, 7), st(8, 9));
        joins(1, of(st(63, 64)), of(st(0, 1)), st(0, 1), st(63, 64));
    }

    private static void joinJustOne() {
        sentence("7: 2 in just one");
        joins(2, of(), of());
        joins(2, of(), EVEN, EVEN);
        joins(2, ODD, of(), ODD);
        joins(2, EVEN, ODD, LINE);
        joins(2, of(LINE), EVEN, ODD);
        joins(2, ODD, of(LINE), EVEN);
        joins(2, LINES, Tracks.row(LINE, 0, 2));
        joins(2, of(st(3, 8)), of(st(7, 9)), st(3, 7), st(8, 9));
        joins(2, of(st(0, 63)), of(st(1, 64)), st(0, 1), st(63, 64));
    }

    private static void joinWithout() {
        sentence("7: 3 in the cover of t and not of u");
        joins(3, of(), of());
        joins(3, of(), EVEN);
        joins(3, ODD, of(), ODD);
        joins(3, EVEN, ODD, EVEN);
        joins(3, of(LINE), EVEN, ODD);
        joins(3, of(LINE), ODD, EVEN);
        joins(3, ODD, of(LINE));
        joins(3, of(st(3, 8)), of(st(7, 9)), st(3, 7));
        joins(3, of(LINE), of(st(0, 1), st(63, 64)), st(1, 63));
        joins(3, of(LINE), of(st(1, 63)), st(0, 1), st(63, 64));
    }

    private static void joinWithItself() {
        sentence("7: both tracks may be the same one");
        int[] runs = {st(5, 20), st(30, 40), st(63, 64)};
        for (int t = 0; t < 3; t++) {
            Tracks before = Tracks.FULL.with(t, Tracks.SOME.track(0));
            makes(before, before.with(t, runs), 3, "join", 0, t, t);
            makes(before, before.with(t, runs), 3, "join", 1, t, t);
            makes(before, before.with(t), 0, "join", 2, t, t);
            makes(before, before.with(t), 0, "join", 3, t, t);
            for (int kind = 0; kind < 4; kind++) {
                keeps(Tracks.EMPTY, 0, "join", kind, t, t);
            }
        }
    }

    private static void joinRefusesAKind() {
        sentence("7: -1 if kind is not in 0 .. 3");
        refusesEachBad("join", 0);
    }

    private static void joinRefusesATrack() {
        sentence("7: -2 if t or u is not good");
        refusesEachBad("join", 1);
        refusesEachBad("join", 2);
        forEachChoice(new int[][] {KIND.good(), JOINED.bad(), JOINED.bad()}, args -> refuses(-2, "join", args));
    }

    private static void joinAnswersHowMany() {
        sentence("7: otherwise answers how many runs those are");
        for (int n = 0; n <= 32; n++) {
            int[] runs = Tracks.row(st(0, 1), 2, n);
            joins(0, of(LINE), runs, runs);
            joins(1, of(), runs, runs);
            joins(2, of(), runs, runs);
            joins(3, runs, ODD, runs);
        }
    }

    private static void joinTestsInOrder() {
        sentence("7: -1 and -2 in the order named");
        refusesTheFirstBad("join");
    }

    private static void promise8() {
        complementMakesRuns();
        complementRefusesATrack();
        complementAnswersHowMany();
    }

    private static void complementMakesRuns() {
        sentence("8: Track t becomes the list of the runs of the positions that are not in its cover");
        for (int t = 0; t < 3; t++) {
            Tracks full = Tracks.FULL;
            makes(full.with(t), full.with(t, LINE), 1, "complement", t);
            makes(full.with(t, LINE), full.with(t), 0, "complement", t);
            makes(full.with(t, LINES), full.with(t), 0, "complement", t);
            makes(full.with(t, Tracks.row(st(0, 33), 1, 32)), full.with(t), 0, "complement", t);
            makes(full.with(t, EVEN), full.with(t, ODD), 32, "complement", t);
            makes(full.with(t, ODD), full.with(t, EVEN), 32, "complement", t);
            makes(full.with(t, st(0, 1)), full.with(t, st(1, 64)), 1, "complement", t);
            makes(full.with(t, st(63, 64)), full.with(t, st(0, 63)), 1, "complement", t);
            makes(full.with(t, st(1, 63)), full.with(t, st(0, 1), st(63, 64)), 2, "complement", t);
            makes(full.with(t, st(0, 7), st(7, 64)), full.with(t), 0, "complement", t);
            makes(full.with(t, st(0, 7), st(8, 64)), full.with(t, st(7, 8)), 1, "complement", t);
        }
    }

    private static void complementRefusesATrack() {
        sentence("8: -1 if t is not good");
        refusesEachBad("complement", 0);
    }

    private static void complementAnswersHowMany() {
        sentence("8: otherwise answers how many those are");
        for (int n = 1; n <= 32; n++) {
            // n stretches of one position, the first at the line's left end: n - 1 gaps of one and what is left.
            int[] gaps = Tracks.row(st(1, 2), 2, n - 1);
            Tracks before = Tracks.MIXED.with(1, Tracks.row(st(0, 1), 2, n));
            makes(before, before.with(1, Tracks.both(gaps, st(2 * n - 1, 64))), n, "complement", 1);
        }
    }

    private static void promise9() {
        copyCopies();
        copyOfItself();
        copyRefusesATrack();
        copyAnswersHowMany();
    }

    private static void copyCopies() {
        sentence("9: Track t becomes a copy of u");
        int[][] lists = {of(), of(LINE), EVEN, LINES, Tracks.SOME.track(0), Tracks.MIXED.track(2)};
        for (int[] one : lists) {
            for (int[] other : lists) {
                for (int t = 0; t < 3; t++) {
                    int u = (t + 1) % 3;
                    Tracks before = Tracks.FULL.with(t, one).with(u, other);
                    makes(before, before.with(t, other), other.length, "copy", t, u);
                    makes(before, before.with(u, one), one.length, "copy", u, t);
                }
            }
        }
    }

    private static void copyOfItself() {
        sentence("9: t and u may be the same");
        for (Tracks tracks : Tracks.ALL) {
            for (int t = 0; t < 3; t++) {
                keeps(tracks, tracks.track(t).length, "copy", t, t);
            }
        }
    }

    private static void copyRefusesATrack() {
        sentence("9: -1 if t or u is not good");
        refusesEachBad("copy", 0);
        refusesEachBad("copy", 1);
        refusesTheFirstBad("copy");
    }

    private static void copyAnswersHowMany() {
        sentence("9: otherwise answers how many stretches it has");
        for (int n = 0; n <= 32; n++) {
            int[] list = Tracks.row(st(0, 9), 1, n);
            for (int before : of(0, 1, 31, 32)) {
                Tracks tracks = Tracks.SOME.with(0, list).with(2, Tracks.row(LINE, 0, before));
                makes(tracks, tracks.with(2, list), n, "copy", 2, 0);
            }
        }
    }
}
