import java.util.ArrayList;
import java.util.List;
import java.util.Map;

/**
 * What one call leaves to the next: all questions before and after each change, and each change after each other
 * one. An answer that was right before a change must not outlive it.
 */
public final class FollowTest extends Boundary {
    private static final Map<Argument, int[]> VALUES = Map.of(TRACK, of(0, 1, 2), JOINED, of(0, 1, 2),
            STRETCH, of(st(0, 1), LINE, st(8, 12), st(60, 64)), STEP, of(-7, 0, 5), COUNT, of(2, 32),
            NUMBER, of(0, 1), WHICH, of(0, 1), KIND, of(0, 1, 2, 3), POSITION, of(0, 9, 63), DEPTH, of(1, 2));
    private static final List<Call> ASKED = new ArrayList<>();
    private static final List<Call> CHANGES = new ArrayList<>();

    private record Call(String method, int... args) {
    }

    public static void main(String[] args) {
        for (String method : FACE.keySet()) {
            List<Call> calls = QUESTIONS.contains(method) ? ASKED : CHANGES;
            forEachChoice(valuesOf(method), choice -> calls.add(new Call(method, choice)));
        }
        questionsAfterAChange();
        changesAfterAChange();
        end();
    }

    private static int[][] valuesOf(String method) {
        Argument[] arguments = FACE.get(method);
        int[][] values = new int[arguments.length][];
        for (int a = 0; a < arguments.length; a++) {
            values[a] = VALUES.get(arguments[a]);
        }
        return values;
    }

    private static void questionsAfterAChange() {
        for (Call change : CHANGES) {
            sentence("all questions before and after " + text(change.method(), change.args()));
            for (Tracks tracks : Tracks.ALL) {
                TrackAlgebra x = tracks.object();
                Model model = tracks.model();
                askAll(x, model);
                same(x, model, change);
                askAll(x, model);
            }
        }
    }

    private static void askAll(TrackAlgebra x, Model model) {
        for (Call question : ASKED) {
            same(x, model, question);
        }
    }

    private static void changesAfterAChange() {
        for (Call first : CHANGES) {
            sentence("each change after " + text(first.method(), first.args()));
            for (Call second : CHANGES) {
                TrackAlgebra x = Tracks.SOME.object();
                Model model = Tracks.SOME.model();
                same(x, model, first);
                same(x, model, second);
                Due.holds(text(first.method(), first.args()) + " and " + text(second.method(), second.args()), x,
                        Tracks.in(model).text());
            }
        }
    }

    private static void same(TrackAlgebra x, Model model, Call made) {
        answersLike(model, x, made.method(), made.args());
    }
}
