import java.io.IOException;
import java.lang.reflect.InvocationTargetException;
import java.nio.file.Files;
import java.nio.file.Path;
import java.util.Arrays;
import java.util.HashSet;
import java.util.List;
import java.util.Set;
import java.util.regex.Matcher;
import java.util.regex.Pattern;

/**
 * Every call that README.md shows: its answer, and the tracks that its comment tells of, are held against the class
 * and against the model. Run where README.md is.
 */
public final class ReadmeTest extends Boundary {
    private static final String OBJECT = "TrackAlgebra x = new TrackAlgebra();";
    private static final Pattern CALL = Pattern.compile("x\\.(\\w+)\\(([^)]*)\\); +// (-?\\d+)(|: .+)");
    private static final Pattern PLAIN = Pattern.compile("-?\\d+");
    private static final Pattern WRITTEN = Pattern.compile("65 \\* (\\d+) \\+ (\\d+)");
    private static final Pattern PAIR = Pattern.compile("\\((\\d+), (\\d+)\\)");
    private static final Pattern TOLD = Pattern.compile("track ([0-2]) is (empty|" + PAIR + "(?:, " + PAIR + ")*)");

    private static final Set<String> shown = new HashSet<>();
    private static TrackAlgebra x = new TrackAlgebra();
    private static Model model = new Model();

    public static void main(String[] args) throws IOException, InvocationTargetException {
        List<String> lines = Files.readAllLines(Path.of("README.md"));
        sentence("README.md");
        boolean inside = false;
        for (String line : lines) {
            if (line.startsWith("```")) {
                inside = line.equals("```java");
            } else if (inside) {
                oneLine(line);
            }
        }
        for (String method : FACE.keySet()) {
            if (!shown.contains(method)) {
                Due.tell("README.md shows no call of " + method);
            }
        }
        namesEveryTest(String.join("\n", lines));
        end();
    }

    private static void oneLine(String line) throws InvocationTargetException {
        Matcher call = CALL.matcher(line);
        if (line.equals(OBJECT)) {
            x = new TrackAlgebra();
            model = new Model();
        } else if (call.matches()) {
            int want = Integer.parseInt(call.group(3));
            int[] args = arguments(call.group(2));
            shown.add(call.group(1));
            answers(x, want, call.group(1), args);
            Due.answer("model: " + line, call(model, call.group(1), args), want);
            tracksAreAsTold(line, call.group(4));
        } else {
            Due.tell("no call with an answer: " + line);
        }
    }

    private static int[] arguments(String list) {
        String[] parts = list.split(", ");
        int[] args = new int[parts.length];
        for (int a = 0; a < parts.length; a++) {
            Matcher written = WRITTEN.matcher(parts[a]);
            if (written.matches()) {
                args[a] = st(Integer.parseInt(written.group(1)), Integer.parseInt(written.group(2)));
            } else if (PLAIN.matcher(parts[a]).matches()) {
                args[a] = Integer.parseInt(parts[a]);
            } else {
                Due.tell("no argument: " + parts[a]);
            }
        }
        return args;
    }

    private static void tracksAreAsTold(String line, String comment) {
        Matcher told = TOLD.matcher(comment);
        while (told.find()) {
            int t = Integer.parseInt(told.group(1));
            int[] want = PAIR.matcher(told.group(2)).results()
                    .mapToInt(one -> st(Integer.parseInt(one.group(1)), Integer.parseInt(one.group(2)))).toArray();
            Due.track(line, x, t, want);
            if (!Arrays.equals(Tracks.in(model).track(t), want)) {
                Due.tell("model: after " + line + " track " + t + " is another one");
            }
        }
    }

    private static void namesEveryTest(String text) throws IOException {
        try (var files = Files.list(Path.of("src/test/java"))) {
            files.map(file -> file.getFileName().toString().replace(".java", ""))
                    .filter(name -> !text.contains("`" + name + "`"))
                    .forEach(name -> Due.tell("README.md does not name " + name));
        }
    }
}
