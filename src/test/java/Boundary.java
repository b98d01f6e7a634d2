import java.lang.reflect.InvocationTargetException;
import java.lang.reflect.Method;
import java.util.Arrays;
import java.util.HashMap;
import java.util.List;
import java.util.Map;
import java.util.TreeMap;
import java.util.function.Consumer;
import java.util.stream.IntStream;

/**
 * What the boundary tests share. Each call is made on an object of its own: so a look at all three tracks follows
 * every single call, and no object comes near the 512 calls that it is promised.
 */
abstract class Boundary {
    static final int MIN = Integer.MIN_VALUE;
    static final int MAX = Integer.MAX_VALUE;

    static final int LINE = st(0, 64);
    // Lists of 32: the whole line again and again; each even position by itself; each odd one.
    static final int[] LINES = Tracks.row(LINE, 0, 32);
    static final int[] EVEN = Tracks.row(st(0, 1), 2, 32);
    static final int[] ODD = Tracks.row(st(1, 2), 2, 32);

    static final Argument TRACK = new Argument(-1, of(0, 1, 2), of(MIN, -1, 3, MAX));
    // Good are (0, 1), (0, 64), (62, 64), (63, 64); not good (-2, 0), (-1, 0), (-1, 1), (-1, 64), (0, 0), (1, 0),
    // (1, 1), (63, 63), (64, 0), (64, 64), (65, 0), (65, 1), the far ends, and 1 with a bit that must not be lost.
    static final Argument STRETCH = new Argument(-2, of(1, 64, 4094, 4159),
            of(MIN, MIN + 1, -130, -65, -64, -1, 0, 65, 66, 4158, 4160, 4224, 4225, 4226, 65537, MAX));
    static final Argument STEP = new Argument(-3, of(-64, 0, 64), of(MIN, -65, 65, MAX));
    static final Argument COUNT = new Argument(-4, of(1, 32), of(MIN, -1, 0, 33, MAX));
    // No track has a stretch with a number of 32 or more; whether a lesser one is good depends on the track.
    static final Argument NUMBER = new Argument(-2, of(0), of(MIN, -1, 32, 33, 64, MAX));
    static final Argument WHICH = new Argument(-3, of(0), of(MIN, -1, 32, 33, MAX));
    static final Argument KIND = new Argument(-1, of(0, 1, 2, 3), of(MIN, -1, 4, MAX));
    static final Argument JOINED = new Argument(-2, TRACK.good(), TRACK.bad());
    static final Argument POSITION = new Argument(-2, of(0, 63), of(MIN, -1, 64, 65, MAX));
    static final Argument DEPTH = new Argument(-2, of(0, 32), of(MIN, -1, 33, 64, MAX));

    /** Each method's arguments, which are tested in this order. */
    static final Map<String, Argument[]> FACE = face();
    static final List<String> QUESTIONS = List.of("size", "stretch", "overlapping", "overlap", "around", "depth",
            "deepest", "covered", "closest", "distance", "shared", "meetings");

    private static final Map<String, Method> METHODS = new HashMap<>();
    private static String sentence = "no sentence";
    private static int sentences = 0;
    private static int calls = 0;
    private static int callsBefore = 0;

    /** Values of one argument, and what a call answers if this argument is the first that is not good. */
    record Argument(int refusal, int[] good, int[] bad) {
        int[] values() {
            return IntStream.concat(IntStream.of(good), IntStream.of(bad)).toArray();
        }

        boolean isBad(int value) {
            return IntStream.of(bad).anyMatch(one -> one == value);
        }
    }

    /** The words of the document that the calls from here on are held against. */
    static void sentence(String words) {
        endSentence();
        sentences++;
        sentence = words;
    }

    private static void endSentence() {
        if (sentences > 0 && calls == callsBefore) {
            Due.tell("no call was held against: " + sentence);
        }
        callsBefore = calls;
    }

    /** A question, a refused call, or a change that finds nothing to do: all three tracks stay as they are. */
    static void keeps(Tracks tracks, int want, String method, int... args) {
        makes(tracks, tracks, want, method, args);
    }

    /** A call that answers as wanted, with all three tracks as wanted after it. */
    static void makes(Tracks before, Tracks after, int want, String method, int... args) {
        TrackAlgebra x = before.object();
        answers(x, want, method, args);
        Due.holds(sentence + ": " + text(method, args), x, after.text());
    }

    static void answers(TrackAlgebra x, int want, String method, int... args) {
        calls++;
        try {
            Due.answer(sentence + ": " + text(method, args), call(x, method, args), want);
        } catch (InvocationTargetException thrown) {
            Due.tell(sentence + ": " + text(method, args) + " threw " + thrown.getCause());
        }
    }

    /** The same call on the object and on the model, with the same answer. */
    static void answersLike(Model model, TrackAlgebra x, String method, int... args) {
        try {
            answers(x, call(model, method, args), method, args);
        } catch (InvocationTargetException thrown) {
            throw new IllegalStateException("the model threw", thrown);
        }
    }

    /** A call that is refused whatever the tracks hold. */
    static void refuses(int want, String method, int... args) {
        for (Tracks tracks : Tracks.ALL) {
            keeps(tracks, want, method, args);
        }
    }

    /** Every choice of values with a bad one among them: the argument that is tested first has the answer. */
    static void refusesTheFirstBad(String method) {
        Argument[] arguments = FACE.get(method);
        forEachChoice(values(arguments), args -> {
            int first = 0;
            while (first < args.length && !arguments[first].isBad(args[first])) {
                first++;
            }
            if (first < args.length) {
                refuses(arguments[first].refusal(), method, args);
            }
        });
    }

    /** Each bad value of one argument, the others being good. */
    static void refusesEachBad(String method, int which) {
        Argument[] arguments = FACE.get(method);
        int[][] values = new int[arguments.length][];
        for (int a = 0; a < arguments.length; a++) {
            values[a] = a == which ? arguments[a].bad() : arguments[a].good();
        }
        forEachChoice(values, args -> refuses(arguments[which].refusal(), method, args));
    }

    static void forEachChoice(int[][] values, Consumer<int[]> use) {
        int choices = 1;
        for (int[] ofOne : values) {
            choices *= ofOne.length;
        }
        for (int n = 0; n < choices; n++) {
            use.accept(choice(values, n));
        }
    }

    /** The n-th of all choices of one value for each argument; behind the last they begin anew. */
    static int[] choice(int[][] values, int n) {
        int[] args = new int[values.length];
        int rest = n;
        for (int a = 0; a < args.length; a++) {
            args[a] = values[a][rest % values[a].length];
            rest /= values[a].length;
        }
        return args;
    }

    /** The call on a TrackAlgebra or on a Model. */
    static int call(Object on, String method, int... args) throws InvocationTargetException {
        String key = on.getClass().getName() + "." + method;
        try {
            if (!METHODS.containsKey(key)) {
                Class<?>[] types = new Class<?>[args.length];
                Arrays.fill(types, int.class);
                METHODS.put(key, on.getClass().getDeclaredMethod(method, types));
            }
            return (int) METHODS.get(key).invoke(on, IntStream.of(args).boxed().toArray());
        } catch (NoSuchMethodException | IllegalAccessException missing) {
            throw new IllegalStateException(missing);
        }
    }

    static String text(String method, int... args) {
        String list = Arrays.toString(args);
        return method + "(" + list.substring(1, list.length() - 1) + ")";
    }

    static int[] of(int... values) {
        return values;
    }

    static int st(int s, int e) {
        return Due.st(s, e);
    }

    static void end() {
        endSentence();
        System.out.println(calls + " calls held against " + sentences + " sentences");
        Due.end();
    }

    static int[][] values(Argument... arguments) {
        int[][] values = new int[arguments.length][];
        for (int a = 0; a < arguments.length; a++) {
            values[a] = arguments[a].values();
        }
        return values;
    }

    private static Map<String, Argument[]> face() {
        Map<String, Argument[]> face = new TreeMap<>();
        face.put("add", new Argument[] {TRACK, STRETCH});
        face.put("repeat", new Argument[] {TRACK, STRETCH, STEP, COUNT});
        face.put("remove", new Argument[] {TRACK, NUMBER});
        face.put("clear", new Argument[] {TRACK, STRETCH});
        face.put("merge", new Argument[] {TRACK});
        face.put("join", new Argument[] {KIND, JOINED, JOINED});
        face.put("complement", new Argument[] {TRACK});
        face.put("copy", new Argument[] {TRACK, TRACK});
        face.put("size", new Argument[] {TRACK});
        face.put("stretch", new Argument[] {TRACK, NUMBER});
        face.put("overlapping", new Argument[] {TRACK, STRETCH});
        face.put("overlap", new Argument[] {TRACK, STRETCH, WHICH});
        face.put("around", new Argument[] {TRACK, STRETCH});
        face.put("depth", new Argument[] {TRACK, POSITION});
        face.put("deepest", new Argument[] {TRACK});
        face.put("covered", new Argument[] {TRACK, DEPTH});
        face.put("closest", new Argument[] {TRACK, STRETCH});
        face.put("distance", new Argument[] {TRACK, STRETCH});
        face.put("shared", new Argument[] {TRACK, TRACK});
        face.put("meetings", new Argument[] {TRACK, TRACK});
        return face;
    }
}
