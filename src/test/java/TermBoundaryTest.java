import java.lang.reflect.InvocationTargetException;
import java.util.ArrayList;
import java.util.Collections;
import java.util.List;
import java.util.Map;

/** The document's terms, and what it says of all methods at once: each sentence's boundary cases. */
public final class TermBoundaryTest extends Boundary {
    public static void main(String[] args) {
        positions();
        stretchCovers();
        threeTracks();
        atMost32();
        severalTimes();
        lesserStartFirst();
        greaterEndFirst();
        numberedInOrder();
        cover();
        runs();
        depth();
        overlap();
        distanceOfOverlapping();
        distanceOfOthers();
        liesIn();
        noQuestionChangesAnything();
        refusedCallsChangeNothing();
        testsInOrder();
        goodTracks();
        goodStretches();
        goodNumbers();
        calls512();
        everyMethodUpToTheLastCall();
        end();
    }

    private static void positions() {
        sentence("POSITIONS are 0 .. 63");
        for (int t = 0; t < 3; t++) {
            Tracks tracks = Tracks.EMPTY.with(t, LINE);
            keeps(tracks, 1, "depth", t, 0);
            keeps(tracks, 1, "depth", t, 63);
            for (int position : POSITION.bad()) {
                keeps(tracks, -2, "depth", t, position);
            }
            keeps(tracks, 64, "covered", t, 0);
            keeps(tracks, 64, "covered", t, 1);
        }
    }

    private static void stretchCovers() {
        sentence("A STRETCH (s, e) with 0 <= s < e <= 64 covers the positions s .. e - 1");
        for (int s = 0; s < 64; s++) {
            for (int e = s + 1; e <= 64; e++) {
                TrackAlgebra x = Tracks.EMPTY.with(1, st(s, e)).object();
                answers(x, 1, "depth", 1, s);
                answers(x, 1, "depth", 1, e - 1);
                answers(x, s == 0 ? -2 : 0, "depth", 1, s - 1);
                answers(x, e == 64 ? -2 : 0, "depth", 1, e);
                answers(x, e - s, "covered", 1, 1);
            }
        }
    }

    private static void threeTracks() {
        sentence("There are three TRACKS, 0 .. 2, empty at first");
        for (int t = 0; t < 3; t++) {
            keeps(Tracks.EMPTY, 0, "size", t);
            makes(Tracks.EMPTY, Tracks.EMPTY.with(t, 1), 1, "add", t, 1);
        }
        keeps(Tracks.EMPTY, -1, "size", -1);
        keeps(Tracks.EMPTY, -1, "size", 3);
        keeps(Tracks.EMPTY, -1, "add", -1, 1);
        keeps(Tracks.EMPTY, -1, "add", 3, 1);
    }

    private static void atMost32() {
        sentence("each a list of at most 32 stretches");
        for (int t = 0; t < 3; t++) {
            Tracks nearly = Tracks.FULL.with(t, Tracks.row(LINE, 0, 31));
            Tracks full = Tracks.FULL.with(t, LINES);
            makes(nearly, full, 32, "add", t, LINE);
            keeps(full, -3, "add", t, LINE);
            makes(nearly, full, 32, "repeat", t, LINE, 0, 32);
            keeps(full, 32, "repeat", t, LINE, 0, 32);
            makes(full.with((t + 1) % 3), full.with((t + 1) % 3, LINES), 32, "copy", (t + 1) % 3, t);
            keeps(full.with(t, EVEN), 32, "merge", t);
            makes(full.with(t, EVEN), full.with(t, ODD), 32, "complement", t);
        }
    }

    private static void severalTimes() {
        sentence("the same one may be there several times");
        for (int stretch : STRETCH.good()) {
            for (int n : of(0, 1, 2, 31)) {
                Tracks before = Tracks.SOME.with(0, Tracks.row(stretch, 0, n));
                makes(before, before.with(0, Tracks.row(stretch, 0, n + 1)), n + 1, "add", 0, stretch);
            }
            Tracks full = Tracks.SOME.with(2, Tracks.row(stretch, 0, 32));
            makes(full, full.with(2, Tracks.row(stretch, 0, 31)), 31, "remove", 2, 15);
            makes(full, full.with(2), 32, "clear", 2, stretch);
            keeps(full, 32, "overlapping", 2, stretch);
            keeps(full, 32, "around", 2, stretch);
            keeps(full, 32, "deepest", 2);
        }
    }

    /** Two stretches put in one way round and the other: the first stands before the second. */
    private static void ordered(int first, int second) {
        Tracks both = Tracks.EMPTY.with(1, first, second);
        makes(Tracks.EMPTY.with(1, first), both, 2, "add", 1, second);
        makes(Tracks.EMPTY.with(1, second), both, 2, "add", 1, first);
        makes(Tracks.EMPTY.with(1, first), both, 2, "repeat", 1, second, 64, 1);
        makes(Tracks.EMPTY.with(1, second), both, 2, "repeat", 1, first, 64, 1);
    }

    private static void lesserStartFirst() {
        sentence("the one with the lesser s first");
        ordered(st(0, 1), st(1, 2));
        ordered(st(0, 1), st(1, 64));
        ordered(st(0, 64), st(1, 2));
        ordered(st(0, 64), st(63, 64));
        ordered(st(0, 1), st(63, 64));
        ordered(st(62, 64), st(63, 64));
        ordered(st(62, 63), st(63, 64));
        ordered(st(20, 30), st(21, 30));
        ordered(st(20, 30), st(21, 40));
    }

    private static void greaterEndFirst() {
        sentence("with the same s, the one with the greater e first");
        ordered(st(0, 64), st(0, 63));
        ordered(st(0, 64), st(0, 1));
        ordered(st(0, 2), st(0, 1));
        ordered(st(62, 64), st(62, 63));
        ordered(st(20, 31), st(20, 30));
    }

    private static void numberedInOrder() {
        sentence("They are numbered 0, 1, 2, .. in this order");
        int[] list = {st(0, 64), st(0, 63), st(0, 1), st(1, 64), st(62, 64), st(62, 63), st(63, 64), st(63, 64)};
        // Put in with every step through the list, the stretches get the same numbers.
        for (int step : of(1, 3, 5, 7)) {
            for (int t = 0; t < 3; t++) {
                TrackAlgebra x = new TrackAlgebra();
                for (int n = 0; n < 8; n++) {
                    x.add(t, list[n * step % 8]);
                }
                for (int i = 0; i < 8; i++) {
                    answers(x, list[i], "stretch", t, i);
                }
                answers(x, 6, "overlap", t, st(63, 64), 3);
            }
        }
        keeps(Tracks.EMPTY.with(1, st(0, 1), st(5, 9), st(5, 7), st(20, 21)), 1, "closest", 1, st(10, 11));
        keeps(Tracks.EMPTY.with(1, st(0, 1), st(5, 9), st(5, 7), st(20, 21)), 3, "closest", 1, st(63, 64));
    }

    private static void cover() {
        sentence("THE COVER of a track is the set of all positions that one of its stretches covers");
        int[][] lists = {of(), of(st(0, 1)), of(st(63, 64)), EVEN, ODD, LINES, Tracks.SOME.track(0)};
        int[] positions = {0, 1, 1, 32, 32, 64, 26};
        for (int n = 0; n < lists.length; n++) {
            for (int t = 0; t < 3; t++) {
                int u = (t + 2) % 3;
                Tracks tracks = Tracks.EMPTY.with(t, lists[n]).with(u, LINES);
                keeps(tracks, positions[n], "covered", t, 1);
                keeps(tracks, positions[n], "shared", t, u);
                keeps(tracks, positions[n], "shared", t, t);
            }
        }
    }

    private static void runs() {
        sentence("A RUN of a set of positions is a greatest stretch all of whose positions are in the set");
        for (int cut = 1; cut < 64; cut++) {
            makes(Tracks.FULL.with(1, st(0, cut), st(cut, 64)), Tracks.FULL.with(1, LINE), 1, "merge", 1);
            makes(Tracks.FULL.with(1, st(0, cut), st(cut - 1, 64)), Tracks.FULL.with(1, LINE), 1, "merge", 1);
            if (cut < 63) {
                keeps(Tracks.FULL.with(1, st(0, cut), st(cut + 1, 64)), 2, "merge", 1);
            }
        }
        for (int stretch : of(st(0, 1), st(63, 64), st(0, 64), st(31, 33))) {
            makes(Tracks.FULL.with(1, Tracks.row(stretch, 0, 32)), Tracks.FULL.with(1, stretch), 1, "merge", 1);
        }
    }

    private static void depth() {
        sentence("THE DEPTH at a position is how many of the track's stretches cover it");
        for (int n = 0; n <= 32; n++) {
            for (int position : of(0, 31, 63)) {
                int one = st(position, position + 1);
                Tracks tracks = Tracks.FULL.with(1, Tracks.row(one, 0, n));
                keeps(tracks, n, "depth", 1, position);
                keeps(tracks, 0, "depth", 1, position == 63 ? 62 : position + 1);
                keeps(tracks, n, "deepest", 1);
            }
        }
    }

    private static void overlap() {
        sentence("Two stretches OVERLAP if some position is covered by both");
        keeps(Tracks.EMPTY.with(0, st(20, 30)), 0, "overlapping", 0, st(10, 20));
        keeps(Tracks.EMPTY.with(0, st(20, 30)), 1, "overlapping", 0, st(10, 21));
        keeps(Tracks.EMPTY.with(0, st(20, 30)), 1, "overlapping", 0, st(29, 40));
        keeps(Tracks.EMPTY.with(0, st(20, 30)), 0, "overlapping", 0, st(30, 40));
        for (int p = 0; p < 64; p++) {
            for (int q = 0; q < 64; q++) {
                Tracks tracks = Tracks.EMPTY.with(1, st(p, p + 1)).with(2, st(q, q + 1));
                keeps(tracks, p == q ? 1 : 0, "meetings", 1, 2);
            }
        }
    }

    private static void distanceOfOverlapping() {
        sentence("THE DISTANCE of two stretches is 0 if they overlap");
        for (int stretch : of(st(20, 30), st(0, 64), st(0, 21), st(29, 64), st(20, 21), st(29, 30), st(24, 25))) {
            keeps(Tracks.SOME.with(2, st(20, 30)), 0, "distance", 2, stretch);
            keeps(Tracks.SOME.with(2, stretch), 0, "distance", 2, st(20, 30));
        }
    }

    private static void distanceOfOthers() {
        sentence("and otherwise how many positions lie between them (0 if they touch)");
        for (int e = 1; e < 64; e++) {
            for (int s = e; s < 64; s++) {
                keeps(Tracks.EMPTY.with(2, st(0, e)), s - e, "distance", 2, st(s, 64));
                keeps(Tracks.EMPTY.with(2, st(s, 64)), s - e, "distance", 2, st(0, e));
                keeps(Tracks.EMPTY.with(2, st(e - 1, e)), s - e, "distance", 2, st(s, s + 1));
                keeps(Tracks.EMPTY.with(2, st(s, s + 1)), s - e, "distance", 2, st(e - 1, e));
            }
        }
    }

    private static void liesIn() {
        sentence("A stretch (s, e) LIES IN a stretch (a, b) if a <= s and e <= b");
        for (int outer : of(st(20, 30), st(19, 30), st(20, 31), st(0, 30), st(20, 64), st(0, 64))) {
            keeps(Tracks.SOME.with(1, outer), 1, "around", 1, st(20, 30));
            makes(Tracks.SOME.with(1, st(20, 30)), Tracks.SOME.with(1), 1, "clear", 1, outer);
        }
        for (int outer : of(st(21, 30), st(20, 29), st(21, 64), st(0, 29), st(21, 29), st(0, 20), st(30, 64))) {
            keeps(Tracks.SOME.with(1, outer), 0, "around", 1, st(20, 30));
            keeps(Tracks.SOME.with(1, st(20, 30)), 0, "clear", 1, outer);
        }
    }

    private static void noQuestionChangesAnything() {
        sentence("No question changes anything");
        for (String question : QUESTIONS) {
            forEachChoice(values(FACE.get(question)), args -> {
                for (Tracks tracks : Tracks.ALL) {
                    staysTheSame(tracks, question, args);
                }
            });
        }
    }

    /** Asked a second time, a question has the same answer, and the tracks are as they were before the first. */
    private static void staysTheSame(Tracks tracks, String question, int... args) {
        try {
            keeps(tracks, call(tracks.object(), question, args), question, args);
            TrackAlgebra x = tracks.object();
            answers(x, call(x, question, args), question, args);
        } catch (InvocationTargetException thrown) {
            Due.tell(text(question, args) + " threw " + thrown.getCause());
        }
    }

    private static void refusedCallsChangeNothing() {
        sentence("A refused call changes nothing");
        for (String method : FACE.keySet()) {
            for (int which = 0; which < FACE.get(method).length; which++) {
                refusesEachBad(method, which);
            }
        }
        for (int t = 0; t < 3; t++) {
            keeps(Tracks.FULL, -3, "add", t, st(30, 31));
            keeps(Tracks.EMPTY, -2, "remove", t, 0);
            keeps(Tracks.EMPTY, -3, "closest", t, LINE);
            keeps(Tracks.EMPTY, -3, "distance", t, LINE);
            keeps(Tracks.EMPTY, -3, "overlap", t, LINE, 0);
        }
    }

    private static void testsInOrder() {
        sentence("In every method the tests are made in the order named");
        for (String method : FACE.keySet()) {
            refusesTheFirstBad(method);
        }
    }

    private static void goodTracks() {
        sentence("a track is good if it is 0 .. 2");
        for (Map.Entry<String, Argument[]> method : FACE.entrySet()) {
            for (int which = 0; which < method.getValue().length; which++) {
                if (method.getValue()[which].good() == TRACK.good()) {
                    refusesEachBad(method.getKey(), which);
                }
            }
        }
        for (int t = 0; t < 3; t++) {
            keeps(Tracks.MIXED, Tracks.MIXED.track(t).length, "size", t);
        }
    }

    private static void goodStretches() {
        sentence("a stretch is written as the number 65 * s + e and is good if 0 <= s < e <= 64");
        boolean[] good = new boolean[65 * 70];
        for (int s = 0; s < 64; s++) {
            for (int e = s + 1; e <= 64; e++) {
                good[65 * s + e] = true;
            }
        }
        for (int n = 0; n < good.length; n++) {
            goodOrNot(n, good[n]);
            goodOrNot(-1 - n, false);
            goodOrNot(MIN + n, false);
            goodOrNot(MAX - n, false);
        }
        for (int bit = 13; bit < 32; bit++) {
            for (int n : of(-1, 0, 1, 64, 65, 4159)) {
                goodOrNot((1 << bit) + n, false);
            }
        }
    }

    private static void goodOrNot(int stretch, boolean good) {
        Tracks tracks = Tracks.EMPTY.with(1, LINE);
        keeps(tracks, good ? 1 : -2, "overlapping", 1, stretch);
        keeps(tracks, good ? 0 : -2, "overlap", 1, stretch, 0);
        keeps(tracks, good ? 1 : -2, "around", 1, stretch);
        keeps(tracks, good ? 0 : -2, "closest", 1, stretch);
        keeps(tracks, good ? 0 : -2, "distance", 1, stretch);
        makes(Tracks.EMPTY, good ? Tracks.EMPTY.with(1, stretch) : Tracks.EMPTY, good ? 1 : -2, "add", 1, stretch);
        makes(Tracks.EMPTY, good ? Tracks.EMPTY.with(1, stretch) : Tracks.EMPTY, good ? 1 : -2,
                "repeat", 1, stretch, 64, 1);
        makes(tracks, stretch == LINE ? Tracks.EMPTY : tracks, stretch == LINE ? 1 : good ? 0 : -2,
                "clear", 1, stretch);
    }

    private static void goodNumbers() {
        sentence("a stretch's number is good if the track has such a stretch");
        for (int t = 0; t < 3; t++) {
            for (int n = 0; n <= 32; n++) {
                Tracks tracks = Tracks.FULL.with(t, Tracks.row(st(0, 9), 1, n));
                for (int i : of(MIN, MIN + 1, -32, -1, n, n + 1, 32, 33, 95, 96, MAX)) {
                    keeps(tracks, -2, "stretch", t, i);
                    keeps(tracks, -2, "remove", t, i);
                }
                if (n > 0) {
                    keeps(tracks, st(0, 9), "stretch", t, 0);
                    keeps(tracks, st(n - 1, n + 8), "stretch", t, n - 1);
                    Tracks less = tracks.with(t, Tracks.row(st(0, 9), 1, n - 1));
                    makes(tracks, less, n - 1, "remove", t, n - 1);
                }
            }
        }
    }

    private static void calls512() {
        sentence("An object is used for at most 512 calls after it has been made");
        TrackAlgebra x = new TrackAlgebra();
        for (int n = 0; n < 510; n++) {
            // 32 stretches go in and out again, over and over.
            int turn = n % 64;
            if (turn < 32) {
                answers(x, turn + 1, "add", 2, st(turn, turn + 1));
            } else {
                answers(x, 63 - turn, "remove", 2, 0);
            }
        }
        answers(x, 2, "size", 2);
        answers(x, st(31, 32), "stretch", 2, 1);
    }

    private static void everyMethodUpToTheLastCall() {
        sentence("An object is used for at most 512 calls: each method answers as due in each of them");
        List<String> methods = List.copyOf(FACE.keySet());
        for (int n = 0; n < methods.size(); n++) {
            List<String> alone = methods.subList(n, n + 1);
            uses512(Tracks.EMPTY, alone);
            uses512(Tracks.SOME, alone);
            // Turned round, each method comes to be the last one once.
            List<String> turned = new ArrayList<>(methods);
            Collections.rotate(turned, n);
            uses512(Tracks.EMPTY, turned);
            uses512(Tracks.SOME, turned);
        }
    }

    /** The methods in turn, each with its good arguments in turn, on one object that is used to its end. */
    private static void uses512(Tracks tracks, List<String> methods) {
        TrackAlgebra x = tracks.object();
        Model model = tracks.model();
        // Each stretch that is there took a call.
        int used = tracks.track(0).length + tracks.track(1).length + tracks.track(2).length;
        for (int n = used; n < 512; n++) {
            String method = methods.get(n % methods.size());
            int[] args = choice(goodValues(FACE.get(method)), n / methods.size());
            answersLike(model, x, method, args);
        }
    }

    private static int[][] goodValues(Argument... arguments) {
        int[][] values = new int[arguments.length][];
        for (int a = 0; a < arguments.length; a++) {
            values[a] = arguments[a].good();
        }
        return values;
    }
}
