/** Promises 1 to 9: a new object, and the calls that change a track. */
public final class ChangeTest {
    public static void main(String[] args) {
        promise1NewObject();
        promise2Add();
        promise2AddKeepsOrder();
        promise2AddRefusals();
        promise3Repeat();
        promise3RepeatEdges();
        promise3RepeatRefusals();
        promise4Remove();
        promise4RemoveRefusals();
        promise5Clear();
        promise5ClearRefusals();
        promise6Merge();
        promise7JoinKinds();
        promise7JoinEdges();
        promise7JoinRefusals();
        promise8Complement();
        promise9Copy();
        changesStayInTheirTrack();
        Due.end();
    }

    private static void promise1NewObject() {
        TrackAlgebra x = new TrackAlgebra();
        for (int t = 0; t < 3; t++) {
            Due.answer("new: size(" + t + ")", x.size(t), 0);
            Due.answer("new: stretch(" + t + ", 0)", x.stretch(t, 0), -2);
            Due.answer("new: deepest(" + t + ")", x.deepest(t), 0);
            Due.answer("new: covered(" + t + ", 1)", x.covered(t, 1), 0);
        }
        x.add(0, 1);
        Due.answer("another new: size(0)", new TrackAlgebra().size(0), 0);
    }

    private static void promise2Add() {
        TrackAlgebra x = new TrackAlgebra();
        for (int t = 0; t < 3; t++) {
            Due.answer("add (0, 64)", x.add(t, Due.st(0, 64)), 1);
            Due.answer("add (63, 64)", x.add(t, Due.st(63, 64)), 2);
            Due.answer("add (0, 1)", x.add(t, Due.st(0, 1)), 3);
            Due.answer("add (0, 1) again", x.add(t, Due.st(0, 1)), 4);
            Due.track("four adds", x, t, Due.st(0, 64), Due.st(0, 1), Due.st(0, 1), Due.st(63, 64));
        }
        for (int s = 0; s < 64; s++) {
            for (int e = s + 1; e <= 64; e++) {
                TrackAlgebra y = new TrackAlgebra();
                Due.answer("add of every good stretch", y.add(1, Due.st(s, e)), 1);
                Due.track("add", y, 1, Due.st(s, e));
            }
        }
    }

    private static void promise2AddKeepsOrder() {
        int a = Due.st(2, 9);
        int b = Due.st(2, 5);
        int c = Due.st(4, 30);
        int d = Due.st(4, 6);
        int[][] orders = {{a, b, c, d}, {d, c, b, a}, {b, a, d, c}, {c, a, d, b}, {b, d, a, c}};
        for (int[] order : orders) {
            Due.track("adds in another order", Due.with(order), 0, a, b, c, d);
        }
        Due.track("adds with equal ones", Due.with(d, a, d, a), 0, a, a, d, d);
    }

    private static void promise2AddRefusals() {
        TrackAlgebra x = Due.with(Due.st(3, 8));
        String before = Due.state(x);
        for (int t : Due.BAD_TRACKS) {
            Due.answer("add(" + t + ", 1)", x.add(t, 1), -1);
            Due.answer("add(" + t + ", 0)", x.add(t, 0), -1);
        }
        for (int stretch : Due.BAD_STRETCHES) {
            Due.answer("add(0, " + stretch + ")", x.add(0, stretch), -2);
        }
        for (int stretch = -200; stretch <= 65 * 70; stretch++) {
            boolean good = stretch >= 0 && stretch / 65 < stretch % 65;
            int want = good ? 1 : -2;
            Due.answer("add(2, " + stretch + ")", new TrackAlgebra().add(2, stretch), want);
        }
        Due.holds("refused add", x, before);

        TrackAlgebra full = new TrackAlgebra();
        for (int n = 1; n <= 32; n++) {
            Due.answer("add up to 32", full.add(1, Due.st(n, 40)), n);
        }
        before = Due.state(full);
        Due.answer("add to a full track", full.add(1, 1), -3);
        Due.answer("add of a bad stretch to a full track", full.add(1, 0), -2);
        Due.answer("add to a bad track beside a full one", full.add(3, 1), -1);
        Due.holds("refused add", full, before);
        Due.answer("add beside a full track", full.add(0, 1), 1);
        Due.answer("add beside a full track", full.add(2, 1), 1);
    }

    private static void promise3Repeat() {
        TrackAlgebra x = new TrackAlgebra();
        Due.answer("repeat forward", x.repeat(0, Due.st(5, 9), 3, 4), 4);
        Due.track("repeat forward", x, 0, Due.st(5, 9), Due.st(8, 12), Due.st(11, 15), Due.st(14, 18));
        Due.answer("repeat on a filled track", x.repeat(0, Due.st(9, 10), 0, 2), 6);
        Due.track("repeat on a filled track", x, 0, Due.st(5, 9), Due.st(8, 12), Due.st(9, 10), Due.st(9, 10),
                Due.st(11, 15), Due.st(14, 18));
        Due.answer("repeat backward", x.repeat(1, Due.st(20, 22), -5, 3), 3);
        Due.track("repeat backward", x, 1, Due.st(10, 12), Due.st(15, 17), Due.st(20, 22));
        Due.answer("repeat once", x.repeat(2, Due.st(0, 64), 64, 1), 1);
        Due.track("repeat once", x, 2, Due.st(0, 64));
    }

    private static void promise3RepeatEdges() {
        TrackAlgebra x = new TrackAlgebra();
        Due.answer("repeat to the right end", x.repeat(0, Due.st(50, 54), 5, 32), 3);
        Due.track("repeat to the right end", x, 0, Due.st(50, 54), Due.st(55, 59), Due.st(60, 64));
        Due.answer("repeat to the left end", x.repeat(1, Due.st(4, 6), -2, 32), 3);
        Due.track("repeat to the left end", x, 1, Due.st(0, 2), Due.st(2, 4), Due.st(4, 6));
        Due.answer("repeat by 64", x.repeat(2, Due.st(0, 1), 64, 32), 1);
        Due.answer("repeat by -64", x.repeat(2, Due.st(63, 64), -64, 32), 2);
        Due.track("repeat by 64 and -64", x, 2, Due.st(0, 1), Due.st(63, 64));

        TrackAlgebra y = Due.with(Due.st(1, 2), Due.st(1, 2));
        Due.answer("repeat as far as there is room", y.repeat(0, Due.st(10, 11), 1, 32), 32);
        Due.answer("last that had room", y.stretch(0, 31), Due.st(39, 40));
        Due.answer("first that stayed", y.stretch(0, 1), Due.st(1, 2));
        String before = Due.state(y);
        Due.answer("repeat on a full track", y.repeat(0, 1, 0, 1), 32);
        Due.holds("repeat on a full track", y, before);
        Due.answer("repeat beside a full track", y.repeat(1, 1, 0, 32), 32);
        Due.answer("repeat beside full tracks", y.repeat(2, 1, 2, 32), 32);
    }

    private static void promise3RepeatRefusals() {
        TrackAlgebra x = Due.with(Due.st(3, 8));
        String before = Due.state(x);
        for (int t : Due.BAD_TRACKS) {
            Due.answer("repeat on track " + t, x.repeat(t, 1, 1, 1), -1);
            Due.answer("repeat, all bad", x.repeat(t, 0, 65, 0), -1);
        }
        for (int stretch : Due.BAD_STRETCHES) {
            Due.answer("repeat of " + stretch, x.repeat(0, stretch, 1, 1), -2);
            Due.answer("repeat, all but the track bad", x.repeat(0, stretch, -65, 33), -2);
        }
        for (int step : new int[] {-65, 65, Due.MIN, Due.MAX}) {
            Due.answer("repeat by " + step, x.repeat(0, 1, step, 1), -3);
            Due.answer("repeat, step and count bad", x.repeat(0, 1, step, 0), -3);
        }
        for (int count : new int[] {0, 33, -1, Due.MIN, Due.MAX}) {
            Due.answer("repeat, count " + count, x.repeat(0, 1, 64, count), -4);
            Due.answer("repeat, count " + count, x.repeat(0, 1, -64, count), -4);
        }
        Due.holds("refused repeat", x, before);
    }

    private static void promise4Remove() {
        int a = Due.st(0, 3);
        int b = Due.st(5, 9);
        int c = Due.st(5, 7);
        int d = Due.st(60, 64);
        TrackAlgebra x = Due.with(a, b, c, c, d);
        Due.answer("remove one of two equal ones", x.remove(0, 2), 4);
        Due.track("remove(0, 2)", x, 0, a, b, c, d);
        Due.answer("remove the first", x.remove(0, 0), 3);
        Due.track("remove(0, 0)", x, 0, b, c, d);
        Due.answer("remove the last", x.remove(0, 2), 2);
        Due.track("remove(0, 2)", x, 0, b, c);
        Due.answer("remove", x.remove(0, 1), 1);
        Due.answer("remove the only one", x.remove(0, 0), 0);
        Due.track("the last remove", x, 0);

        TrackAlgebra full = new TrackAlgebra();
        full.repeat(2, 1, 2, 32);
        Due.answer("remove from a full track", full.remove(2, 31), 31);
        Due.answer("the new last one", full.stretch(2, 30), Due.st(60, 61));
        Due.answer("room again", full.add(2, 1), 32);
    }

    private static void promise4RemoveRefusals() {
        TrackAlgebra x = Due.with(Due.st(3, 8), Due.st(4, 5));
        String before = Due.state(x);
        for (int t : Due.BAD_TRACKS) {
            Due.answer("remove(" + t + ", 0)", x.remove(t, 0), -1);
            Due.answer("remove(" + t + ", -1)", x.remove(t, -1), -1);
        }
        for (int i : new int[] {-1, 2, 32, 64, Due.MIN, Due.MAX}) {
            Due.answer("remove(0, " + i + ")", x.remove(0, i), -2);
        }
        Due.answer("remove from an empty track", x.remove(1, 0), -2);
        Due.holds("refused remove", x, before);
    }

    private static void promise5Clear() {
        int a = Due.st(3, 20);
        int b = Due.st(5, 21);
        int c = Due.st(5, 20);
        int d = Due.st(5, 6);
        int e = Due.st(8, 12);
        int f = Due.st(19, 20);
        int g = Due.st(19, 21);
        int h = Due.st(20, 22);
        TrackAlgebra x = Due.with(a, b, c, d, e, e, f, g, h);
        Due.answer("clear (5, 20)", x.clear(0, Due.st(5, 20)), 5);
        Due.track("clear (5, 20)", x, 0, a, b, g, h);
        Due.answer("clear (5, 20) again", x.clear(0, Due.st(5, 20)), 0);
        Due.track("clear (5, 20) again", x, 0, a, b, g, h);
        Due.answer("clear all", x.clear(0, Due.st(0, 64)), 4);
        Due.track("clear all", x, 0);
        Due.answer("clear an empty track", x.clear(0, Due.st(0, 64)), 0);

        TrackAlgebra full = new TrackAlgebra();
        full.repeat(1, 1, 2, 32);
        Due.answer("clear a full track in part", full.clear(1, Due.st(0, 62)), 31);
        Due.track("clear (0, 62)", full, 1, Due.st(62, 63));
    }

    private static void promise5ClearRefusals() {
        TrackAlgebra x = Due.with(Due.st(3, 8), Due.st(0, 1));
        String before = Due.state(x);
        for (int t : Due.BAD_TRACKS) {
            Due.answer("clear(" + t + ", 64)", x.clear(t, 64), -1);
            Due.answer("clear(" + t + ", 0)", x.clear(t, 0), -1);
        }
        for (int stretch : Due.BAD_STRETCHES) {
            Due.answer("clear(0, " + stretch + ")", x.clear(0, stretch), -2);
            Due.answer("clear(1, " + stretch + ")", x.clear(1, stretch), -2);
        }
        Due.holds("refused clear", x, before);
    }

    private static void promise6Merge() {
        TrackAlgebra x = Due.with(Due.st(0, 4), Due.st(4, 6), Due.st(7, 9), Due.st(7, 8), Due.st(20, 30),
                Due.st(25, 40), Due.st(22, 23), Due.st(63, 64));
        Due.answer("merge", x.merge(0), 4);
        Due.track("merge", x, 0, Due.st(0, 6), Due.st(7, 9), Due.st(20, 40), Due.st(63, 64));
        Due.answer("merge again", x.merge(0), 4);
        Due.answer("merge of nothing", x.merge(1), 0);
        Due.track("merge of nothing", x, 1);
        x.repeat(2, 1, 1, 32);
        x.repeat(2, 1, 1, 32);
        Due.answer("merge of touching ones", x.merge(2), 1);
        Due.track("merge of touching ones", x, 2, Due.st(0, 32));

        TrackAlgebra y = new TrackAlgebra();
        y.repeat(0, Due.st(1, 2), 2, 32);
        Due.answer("merge of 32 runs", y.merge(0), 32);
        Due.answer("the last of 32 runs", y.stretch(0, 31), Due.st(63, 64));
        y.add(1, Due.st(0, 64));
        Due.answer("merge of the whole line", y.merge(1), 1);
        Due.track("merge of the whole line", y, 1, Due.st(0, 64));

        String before = Due.state(y);
        for (int t : Due.BAD_TRACKS) {
            Due.answer("merge(" + t + ")", y.merge(t), -1);
        }
        Due.holds("refused merge", y, before);
    }

    private static TrackAlgebra twoTracks() {
        TrackAlgebra x = Due.with(Due.st(0, 10), Due.st(5, 15), Due.st(30, 40));
        Due.fill(x, 1, Due.st(12, 20), Due.st(35, 37), Due.st(40, 42), Due.st(63, 64));
        Due.fill(x, 2, Due.st(1, 3), Due.st(1, 2));
        return x;
    }

    private static void promise7JoinKinds() {
        int[][] want = {
            {Due.st(12, 15), Due.st(35, 37)},
            {Due.st(0, 20), Due.st(30, 42), Due.st(63, 64)},
            {Due.st(0, 12), Due.st(15, 20), Due.st(30, 35), Due.st(37, 42), Due.st(63, 64)},
            {Due.st(0, 12), Due.st(30, 35), Due.st(37, 40)},
        };
        for (int kind = 0; kind < 4; kind++) {
            TrackAlgebra x = twoTracks();
            String call = "join(" + kind + ", 0, 1)";
            Due.answer(call, x.join(kind, 0, 1), want[kind].length);
            Due.track(call, x, 0, want[kind]);
            Due.track(call, x, 1, Due.st(12, 20), Due.st(35, 37), Due.st(40, 42), Due.st(63, 64));
            Due.track(call, x, 2, Due.st(1, 3), Due.st(1, 2));
        }
        TrackAlgebra y = twoTracks();
        Due.answer("join(3, 1, 0)", y.join(3, 1, 0), 3);
        Due.track("join(3, 1, 0)", y, 1, Due.st(15, 20), Due.st(40, 42), Due.st(63, 64));
        Due.track("join(3, 1, 0)", y, 0, Due.st(0, 10), Due.st(5, 15), Due.st(30, 40));
    }

    private static void promise7JoinEdges() {
        int[] withItself = {2, 2, 0, 0};
        int[] withNothing = {0, 2, 2, 2};
        int[] ofNothing = {0, 4, 4, 0};
        for (int kind = 0; kind < 4; kind++) {
            Due.answer("join with itself, kind " + kind, twoTracks().join(kind, 0, 0), withItself[kind]);
            TrackAlgebra x = twoTracks();
            x.clear(2, 64);
            Due.answer("join with nothing, kind " + kind, x.join(kind, 0, 2), withNothing[kind]);
            Due.answer("join of nothing, kind " + kind, x.join(kind, 2, 1), ofNothing[kind]);
        }
        TrackAlgebra y = new TrackAlgebra();
        y.repeat(0, Due.st(0, 1), 2, 32);
        y.repeat(1, Due.st(1, 2), 2, 32);
        y.copy(2, 0);
        Due.answer("join of two combs, both", y.join(0, 2, 1), 0);
        y.copy(2, 0);
        Due.answer("join of two combs, without", y.join(3, 2, 1), 32);
        Due.answer("join of two combs, just one", y.join(2, 2, 1), 1);
        Due.track("join of two combs, just one", y, 2, Due.st(0, 64));
        Due.answer("join of the line and a comb", y.join(3, 2, 1), 32);
        Due.answer("the last of that", y.stretch(2, 31), Due.st(62, 63));
    }

    private static void promise7JoinRefusals() {
        TrackAlgebra x = twoTracks();
        String before = Due.state(x);
        for (int kind : new int[] {-1, 4, Due.MIN, Due.MAX}) {
            Due.answer("join(" + kind + ", 0, 1)", x.join(kind, 0, 1), -1);
            Due.answer("join(" + kind + ", 3, 1)", x.join(kind, 3, 1), -1);
            Due.answer("join(" + kind + ", 0, -1)", x.join(kind, 0, -1), -1);
        }
        for (int t : Due.BAD_TRACKS) {
            for (int kind = 0; kind < 4; kind++) {
                Due.answer("join(" + kind + ", " + t + ", 0)", x.join(kind, t, 0), -2);
                Due.answer("join(" + kind + ", 0, " + t + ")", x.join(kind, 0, t), -2);
                Due.answer("join(" + kind + ", " + t + ", " + t + ")", x.join(kind, t, t), -2);
            }
        }
        Due.holds("refused join", x, before);
    }

    private static void promise8Complement() {
        TrackAlgebra x = Due.with(Due.st(0, 4), Due.st(4, 6), Due.st(7, 9), Due.st(7, 8), Due.st(20, 30));
        Due.answer("complement", x.complement(0), 3);
        Due.track("complement", x, 0, Due.st(6, 7), Due.st(9, 20), Due.st(30, 64));
        Due.answer("complement back", x.complement(0), 3);
        Due.track("complement back", x, 0, Due.st(0, 6), Due.st(7, 9), Due.st(20, 30));
        Due.answer("complement of nothing", x.complement(1), 1);
        Due.track("complement of nothing", x, 1, Due.st(0, 64));
        Due.answer("complement of the line", x.complement(1), 0);
        Due.track("complement of the line", x, 1);
        x.repeat(2, Due.st(0, 1), 2, 32);
        Due.answer("complement of a comb", x.complement(2), 32);
        Due.answer("its first", x.stretch(2, 0), Due.st(1, 2));
        Due.answer("its last", x.stretch(2, 31), Due.st(63, 64));
        x.remove(2, 0);
        x.remove(2, 30);
        Due.answer("complement of a comb with free ends", x.complement(2), 31);
        Due.answer("its first", x.stretch(2, 0), Due.st(0, 3));
        Due.answer("its last", x.stretch(2, 30), Due.st(62, 64));

        String before = Due.state(x);
        for (int t : Due.BAD_TRACKS) {
            Due.answer("complement(" + t + ")", x.complement(t), -1);
        }
        Due.holds("refused complement", x, before);
    }

    private static void promise9Copy() {
        TrackAlgebra x = twoTracks();
        Due.answer("copy to a longer one", x.copy(0, 2), 2);
        Due.track("copy to a longer one", x, 0, Due.st(1, 3), Due.st(1, 2));
        Due.answer("copy to a shorter one", x.copy(2, 1), 4);
        Due.track("copy to a shorter one", x, 2, Due.st(12, 20), Due.st(35, 37), Due.st(40, 42), Due.st(63, 64));
        Due.track("copies", x, 1, Due.st(12, 20), Due.st(35, 37), Due.st(40, 42), Due.st(63, 64));
        x.remove(2, 0);
        Due.answer("a copy has a life of its own", x.size(1), 4);
        String before = Due.state(x);
        Due.answer("copy of itself", x.copy(1, 1), 4);
        Due.holds("copy of itself", x, before);

        for (int t : Due.BAD_TRACKS) {
            Due.answer("copy(" + t + ", 0)", x.copy(t, 0), -1);
            Due.answer("copy(0, " + t + ")", x.copy(0, t), -1);
            Due.answer("copy(" + t + ", " + t + ")", x.copy(t, t), -1);
        }
        Due.holds("refused copy", x, before);

        TrackAlgebra y = new TrackAlgebra();
        y.repeat(1, Due.st(0, 5), 1, 32);
        Due.answer("copy of a full track", y.copy(2, 1), 32);
        Due.answer("its last", y.stretch(2, 31), Due.st(31, 36));
        Due.answer("copy of an empty track", y.copy(1, 0), 0);
        Due.track("copy of an empty track", y, 1);
    }

    /** Full neighbours show a change that runs over a track's edges. */
    private static void changesStayInTheirTrack() {
        for (int t = 0; t < 3; t++) {
            TrackAlgebra x = new TrackAlgebra();
            for (int u = 0; u < 3; u++) {
                x.repeat(u, Due.st(10 * u, 10 * u + 4), 1, 32);
            }
            x.remove(t, 0);
            x.add(t, Due.st(0, 1));
            x.remove(t, 31);
            x.repeat(t, Due.st(63, 64), -1, 5);
            x.clear(t, Due.st(0, 1));
            x.complement(t);
            x.merge(t);
            x.join(2, t, (t + 1) % 3);
            x.copy(t, (t + 2) % 3);
            for (int u = 0; u < 3; u++) {
                int from = u == t ? (t + 2) % 3 : u;
                int[] want = new int[32];
                for (int i = 0; i < 32; i++) {
                    want[i] = Due.st(10 * from + i, 10 * from + i + 4);
                }
                Due.track("changes to track " + t, x, u, want);
            }
        }
    }
}
