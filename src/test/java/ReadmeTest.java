import java.lang.reflect.Method;
import java.lang.reflect.Modifier;
import java.nio.file.Files;
import java.nio.file.Path;
import java.util.List;
import java.util.Map;
import java.util.Set;
import java.util.TreeMap;
import java.util.TreeSet;
import java.util.regex.Matcher;
import java.util.regex.Pattern;

/** README.md against the class: its run answers what it says, its tables have every item and every call. */
public final class ReadmeTest {
    private static final Pattern CALL = Pattern.compile("x\\.(\\w+)\\(([^)]*)\\);\\s+// (-?\\d+|BAD|NO|FULL|NONE)\\b.*");
    private static final Pattern PUT = Pattern.compile("put\\(x, \"([^\"]*)\"\\);");
    private static final Pattern CALL_ROW = Pattern.compile("\\| `(\\w+)\\(([^)]*)\\)` \\| .+ \\| ([A-Z, ]*)\\|");
    private static final Pattern PROMISE = Pattern.compile("`int (\\w+)\\([^)]*\\)`: (.*)");
    private static final Pattern ITEM_ROW = Pattern.compile("\\| `([a-z])[A-Z,]+;` \\| .+ \\| (\\w+) \\|");
    private static final Map<String, Integer> MARKS = Map.of("BAD", UnsayingDrums.BAD, "NO", UnsayingDrums.NO, "FULL",
        UnsayingDrums.FULL, "NONE", UnsayingDrums.NONE);
    private static int held = 0;
    private static int wrong = 0;

    private static void hold(boolean so, String what) {
        held++;
        if (!so) {
            wrong++;
            System.out.println("README.md: " + what);
        }
    }

    public static void main(String[] args) throws Exception {
        List<String> lines = Files.readAllLines(Path.of("README.md"));
        run(lines);
        items(lines);
        calls(lines);
        marks(String.join(" ", lines));
        System.out.println("readme: " + held + " looked at, " + wrong + " not as due");
        if (wrong != 0) System.exit(1);
    }

    private static void run(List<String> lines) {
        Run run = null;
        int answers = 0;
        for (String line : lines) {
            Matcher put = PUT.matcher(line);
            Matcher call = CALL.matcher(line);
            if (line.equals("UnsayingDrums x = new UnsayingDrums();")) {
                run = Run.fresh();
            } else if (run != null && put.matches()) {
                run.put(put.group(1));
            } else if (run != null && call.matches()) {
                String told = (call.group(1) + " " + call.group(2).replace(",", "")).trim();
                int due = MARKS.containsKey(call.group(3)) ? MARKS.get(call.group(3)) : Integer.parseInt(call.group(3));
                int got = run.call(told);
                hold(got == due, told + " answers " + got + ", but it says " + due);
                answers++;
            } else {
                hold(!line.startsWith("x."), "a row of the run that was not understood: " + line);
            }
        }
        hold(answers > 20, "there is a run, with answers");
    }

    private static void items(List<String> lines) {
        Map<String, String> without = new TreeMap<>();
        for (String line : lines) {
            Matcher row = ITEM_ROW.matcher(line);
            if (row.matches()) without.put(row.group(1), row.group(2));
        }
        hold(without.equals(Map.of("p", "2", "x", "3", "h", "20", "l", "0", "f", "8", "w", "none")), "the items: " + without);
    }

    /** Each call of the face, by its name and how many numbers it takes, with the marks that its promise names. */
    private static void calls(List<String> lines) throws Exception {
        Map<String, Set<String>> promised = promisedMarks();
        Map<String, Integer> told = new TreeMap<>();
        for (String line : lines) {
            Matcher row = CALL_ROW.matcher(line);
            if (!row.matches()) continue;
            told.put(row.group(1), row.group(2).isEmpty() ? 0 : row.group(2).split(", ").length);
            hold(marksIn(row.group(3)).equals(promised.get(row.group(1))), "the marks of " + row.group(1) + ": " + row.group(3));
        }
        Map<String, Integer> face = new TreeMap<>();
        for (Method m : UnsayingDrums.class.getDeclaredMethods()) {
            if (Modifier.isPublic(m.getModifiers())) face.put(m.getName(), m.getParameterCount());
        }
        hold(told.equals(face), "the calls: " + told);
    }

    private static Map<String, Set<String>> promisedMarks() throws Exception {
        Map<String, Set<String>> promised = new TreeMap<>();
        for (String line : Files.readAllLines(Path.of("../shared/DOC.md"))) {
            Matcher promise = PROMISE.matcher(line);
            if (promise.matches()) promised.put(promise.group(1), marksIn(promise.group(2)));
        }
        return promised;
    }

    private static Set<String> marksIn(String text) {
        Set<String> marks = new TreeSet<>(List.of(text.split("\\W+")));
        marks.retainAll(MARKS.keySet());
        return marks;
    }

    private static void marks(String text) {
        for (Map.Entry<String, Integer> mark : MARKS.entrySet()) {
            hold(text.contains("- `" + mark.getKey() + "` (" + mark.getValue() + "): "), "what " + mark.getKey() + " means");
        }
        hold(text.contains("at most 512 calls"), "for how many calls an object is used");
        hold(text.contains(" .ci/run "), "how the tests are run");
    }
}
