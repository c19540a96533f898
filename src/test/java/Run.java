import java.lang.reflect.InvocationTargetException;
import java.lang.reflect.Method;
import java.lang.reflect.Modifier;
import java.util.ArrayList;
import java.util.HashMap;
import java.util.List;
import java.util.Map;

/**
 * A new object and the calls on it, told as "drum 0 3". It knows its calls, so that a run can be gone through again with a
 * call more, and it counts them, since the document promises nothing behind the 512th.
 */
final class Run {
    static final int BAD = -1, NO = -2, FULL = -3, NONE = -4;
    static final int MIN = Integer.MIN_VALUE, MAX = Integer.MAX_VALUE;
    private static final int MOST_CALLS = 512;
    private static final Map<String, Method> FACE = new HashMap<>();
    private static int checks = 0;
    private static int wrong = 0;

    static {
        for (Method m : UnsayingDrums.class.getDeclaredMethods()) {
            if (Modifier.isPublic(m.getModifiers())) FACE.put(m.getName(), m);
        }
    }

    private final UnsayingDrums drums = new UnsayingDrums();
    private final List<String> calls = new ArrayList<>();

    static Run fresh() {
        return new Run();
    }

    /** A new object with a text laid. */
    static Run laid(String text) {
        Run run = new Run().put(text);
        check("lay of a text without fault", run, run.call("lay") > 0);
        return run;
    }

    /** Ends the program: with 1 if an answer was not as due. */
    static void end(String what) {
        System.out.println(what + ": " + checks + " answers looked at, " + wrong + " not as due");
        if (wrong != 0) System.exit(1);
    }

    private static void check(String what, Run run, boolean so) {
        checks++;
        if (so) return;
        wrong++;
        if (wrong <= 20) System.out.println(what + ", behind " + run.lately());
    }

    private String lately() {
        int more = Math.max(0, calls.size() - 40);
        return (more == 0 ? "" : more + " calls more and ") + calls.subList(more, calls.size());
    }

    int call(String told) {
        calls.add(told);
        if (calls.size() > MOST_CALLS) throw new IllegalStateException("more calls than are promised: " + calls);
        String[] parts = told.split(" ");
        Method m = FACE.get(parts[0]);
        Class<?>[] types = m.getParameterTypes();
        if (types.length != parts.length - 1) throw new IllegalArgumentException(told);
        Object[] args = new Object[types.length];
        for (int i = 0; i < args.length; i++) {
            long value = Long.parseLong(parts[i + 1]);
            if (types[i] == long.class) args[i] = value;
            else args[i] = Math.toIntExact(value);
        }
        try {
            return (int) m.invoke(drums, args);
        } catch (IllegalAccessException | InvocationTargetException e) {
            throw new IllegalStateException(told + " threw, behind " + calls, e);
        }
    }

    /** Calls parted by commas, whatever they answer. */
    Run then(String told) {
        for (String one : told.split(", ")) call(one);
        return this;
    }

    Run put(String text) {
        for (int at = 0; at < text.length(); at += 8) {
            int n = Math.min(8, text.length() - at);
            long v = 0;
            for (int i = 0; i < n; i++) v = v << 8 | text.charAt(at + i);
            call("write " + n + " " + v);
        }
        return this;
    }

    Run row(String sorts) {
        call("noRow");
        for (char s : sorts.toCharArray()) call("add " + s);
        return this;
    }

    Run due(String told, int answer) {
        int got = call(told);
        check(told + " answered " + got + ", due is " + answer, this, got == answer);
        return this;
    }

    /** The answer is due, and all that can be seen behind the call is as if it had not been. */
    Run still(String told, int answer) {
        List<Integer> without = again().seen();
        Run with = again();
        with.call(told);
        check(told + " changed what can be seen", this, with.seen().equals(without));
        return due(told, answer);
    }

    /** What stands at a place at a minute, sort by sort. */
    Run stands(int p, int t, String sorts) {
        due("stands " + p + " " + t + " -1", sorts.length());
        for (int k = 0; k < sorts.length(); k++) due("stands " + p + " " + t + " " + k, sorts.charAt(k) - '0');
        return due("stands " + p + " " + t + " " + sorts.length(), NONE);
    }

    /** All that can be seen is as on another run, which ends with this. */
    Run sameAs(Run other, String what) {
        return seesAs(other.seen(), what);
    }

    Run seesAs(List<Integer> due, String what) {
        check(what, this, seen().equals(due));
        return this;
    }

    Run again() {
        Run other = new Run();
        for (String told : calls) other.call(told);
        return other;
    }

    /** What every call answers from here on: first what only asks, then what takes away. */
    List<Integer> seen() {
        List<Integer> seen = new ArrayList<>();
        for (int what = 0; what < 10; what++) see(seen, "count " + what);
        see(seen, "fault");
        int last = seen.get(0) - 1;
        seeHills(seen);
        seeBeats(seen);
        for (int p : new int[] {0, last}) {
            seeRow(seen, p, call("count 4"));
            seeRow(seen, p, 9999);
            for (String told : new String[] {"open ", "takes "}) see(seen, told + p);
            for (String told : new String[] {"said " + p + " 9999", "meaning " + p + " 9999 0"}) see(seen, told);
        }
        for (String told : new String[] {"mends 0", "secret 0", "secret 1", "spoiled 0", "spoiled 1", "chance 0 1 2 0",
            "chance 0 1 2 1", "day 7 99 0"}) {
            see(seen, told);
        }
        while (see(seen, "undo") >= 0) seeBeatsShort(seen);
        while (see(seen, "back") >= 0) seeBeatsShort(seen);
        for (String told : new String[] {"noRow", "forget", "lay"}) see(seen, told);
        if (seen.get(seen.size() - 1) >= 0) seeHills(seen);
        see(seen, "wipe");
        return seen;
    }

    private int see(List<Integer> seen, String told) {
        int answer = call(told);
        seen.add(answer);
        return answer;
    }

    private void seeHills(List<Integer> seen) {
        int places = see(seen, "count 0");
        int words = see(seen, "count 2");
        for (int a = 0; a < places; a++) {
            for (int b = a; b < places; b++) see(seen, "delay " + b + " " + a);
        }
        for (int w = 0; w < words; w++) {
            for (int k = 0; k < 4 && see(seen, "word " + w + " " + k) >= 0; k++) { }
        }
    }

    private void seeBeats(List<Integer> seen) {
        int beats = see(seen, "count 3");
        for (int i = 0; i < beats; i++) {
            for (int what = 0; what < 3; what++) see(seen, "beat " + i + " " + what);
        }
    }

    private void seeBeatsShort(List<Integer> seen) {
        int beats = see(seen, "count 3");
        see(seen, "count 4");
        for (int what = 0; what < 3; what++) see(seen, "beat " + (beats - 1) + " " + what);
    }

    private void seeRow(List<Integer> seen, int p, int t) {
        for (int k = 0; k < 12 && see(seen, "stands " + p + " " + t + " " + k) >= 0; k++) { }
        see(seen, "stands " + p + " " + t + " -1");
    }
}
