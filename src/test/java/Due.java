/** What the project's tests share: wrong inputs, answers held against those that are due, and a look at all tracks. */
final class Due {
    static final int MIN = Integer.MIN_VALUE;
    static final int MAX = Integer.MAX_VALUE;
    static final int[] BAD_TRACKS = {-1, 3, MIN, MAX};
    // (0, 0), below 0, (1, 0), (1, 1), (64, 0), (64, 64), (65, 0), (65, 1), and the far ends.
    static final int[] BAD_STRETCHES = {0, -1, -64, 65, 66, 4160, 4224, 4225, 4226, MIN, MAX};

    private static int wrong = 0;

    private Due() {
    }

    static void answer(String call, int got, int want) {
        if (got != want) {
            tell(call + " answered " + got + ", due is " + want);
        }
    }

    static void track(String after, TrackAlgebra x, int t, int... want) {
        String due = java.util.Arrays.toString(want);
        String got = java.util.Arrays.toString(stretches(x, t));
        if (!got.equals(due)) {
            tell("after " + after + " track " + t + " is " + got + ", due is " + due);
        }
    }

    /** All three tracks are as due: those that an earlier look found, or those of a Tracks. */
    static void holds(String after, TrackAlgebra x, String due) {
        String now = state(x);
        if (!now.equals(due)) {
            tell("after " + after + " the tracks are " + now + ", due is " + due);
        }
    }

    static void tell(String text) {
        wrong++;
        System.out.println(text);
    }

    static String state(TrackAlgebra x) {
        StringBuilder text = new StringBuilder();
        for (int t = 0; t < 3; t++) {
            text.append(java.util.Arrays.toString(stretches(x, t)));
        }
        return text.toString();
    }

    /** The number that stands for the stretch (s, e). */
    static int st(int s, int e) {
        return 65 * s + e;
    }

    /** An object whose track 0 has the given stretches, put in one by one. */
    static TrackAlgebra with(int... stretches) {
        TrackAlgebra x = new TrackAlgebra();
        fill(x, 0, stretches);
        return x;
    }

    static void fill(TrackAlgebra x, int t, int... stretches) {
        for (int stretch : stretches) {
            x.add(t, stretch);
        }
    }

    static void end() {
        System.out.println(wrong == 0 ? "all answers are as due" : wrong + " answers are not as due");
        if (wrong != 0) {
            System.exit(1);
        }
    }

    private static int[] stretches(TrackAlgebra x, int t) {
        int[] numbers = new int[x.size(t)];
        for (int i = 0; i < numbers.length; i++) {
            numbers[i] = x.stretch(t, i);
        }
        return numbers;
    }
}
