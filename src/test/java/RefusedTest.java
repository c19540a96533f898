import java.util.ArrayList;
import java.util.List;

/** "Of several the first; nothing changes then": whatever a call refuses or only asks, all is as if it had not been called. */
public final class RefusedTest {
    private static final int[] EDGES = {Run.MIN, -2, -1, 0, 1, 2, 3, 4, 5, 7, 8, 9, 10, 24, 99, 100, 600, 601, 9999, 10000, Run.MAX};
    private static final String[] ASKING = {"fault 0", "delay 2", "word 2", "beat 2", "stands 3", "said 2", "meaning 3", "unsay 3",
        "open 1", "takes 1", "mends 1", "spoiled 1", "secret 1", "chance 4", "day 3", "count 1"};
    private static final String[] CHANGING = {"write 2", "wipe 0", "lay 0", "drum 2", "pass 1", "undo 0", "add 1", "noRow 0", "tell 1",
        "forget 0", "keep 0", "back 0"};
    private static final int BATCH = 20;

    public static void main(String[] args) {
        Run[] states = {Run.fresh(), one(), busy(), full()};
        for (Run state : states) {
            List<Integer> due = state.again().seen();
            for (String name : ASKING) leavesAll(state, due, asked(name));
            for (String name : CHANGING) leavesAll(state, due, refused(state, name));
        }
        firstOfSeveral();
        Run.end("refused");
    }

    private static Run one() {
        return Run.laid("p1;f2;h1;l2;w0;").then("drum 0 1");
    }

    private static Run busy() {
        return Run.laid("p3;x0,1,4;x1,2,0;h15;f4;l1;w0;w01;w012;w13;").then("drum 0 1, pass 2, drum 1 2, keep, drum 2 3, pass 9, undo")
            .row("12").then("tell 0").row("123").then("tell 2").put("q");
    }

    /** All is full: bytes, words, beats, minutes, told row, secrets, steps, kept. */
    private static Run full() {
        Run run = Run.laid("p5;x0,4,60;w0;w1;w2;w3;w4;w5;w6;w7;");
        for (int i = 0; i < 24; i++) run.then("drum " + i % 5 + " " + i % 8);
        for (int i = 0; i < 16; i++) run.then("pass 600");
        return run.then("pass 399").row("01234567").then("tell 4, tell 2, tell 0, keep, keep").put("w".repeat(265)).due("count 9", 300);
    }

    private static List<String> tuples(String name) {
        String[] parts = name.split(" ");
        List<String> told = new ArrayList<>(List.of(parts[0]));
        for (int i = 0; i < Integer.parseInt(parts[1]); i++) {
            List<String> more = new ArrayList<>();
            for (String ahead : told) {
                // each number through all edges while the others are small ones
                boolean far = !ahead.matches("\\w+( [0123])*");
                for (int edge : EDGES) {
                    if (!far || edge >= 0 && edge <= 1) more.add(ahead + " " + edge);
                }
            }
            told = more;
        }
        return told;
    }

    private static List<String> asked(String name) {
        return tuples(name);
    }

    /** Those that are refused there: which ones are is due elsewhere. */
    private static List<String> refused(Run state, String name) {
        List<String> some = new ArrayList<>();
        for (String told : tuples(name)) {
            if (state.again().call(told) < 0) some.add(told);
        }
        return some;
    }

    private static void leavesAll(Run state, List<Integer> due, List<String> calls) {
        for (int from = 0; from < calls.size(); from += BATCH) {
            List<String> batch = calls.subList(from, Math.min(calls.size(), from + BATCH));
            Run run = state.again();
            for (String told : batch) run.call(told);
            run.seesAs(due, batch + " changed what can be seen");
        }
    }

    /** BAD ahead of NO, NO ahead of FULL, BAD ahead of FULL and of NONE. */
    private static void firstOfSeveral() {
        Run full = full();
        full.due("write 9 0", Run.BAD).due("write 1 0", Run.FULL).due("drum 5 0", Run.BAD).due("drum 0 0", Run.FULL);
        full.due("pass 601", Run.BAD).due("pass 600", Run.NO).due("add 8", Run.BAD).due("add 0", Run.FULL);
        full.due("tell 5", Run.BAD).due("tell 0", Run.NO).due("tell 1", Run.FULL).due("keep", Run.FULL).due("lay", Run.NO);
        full.due("unsay 0 25 5", Run.BAD).due("unsay 0 25 0", Run.NONE).due("stands 5 0 25", Run.BAD).due("stands 0 0 25", Run.NONE);
        full.due("word 8 4", Run.BAD).due("word 7 4", Run.NONE).due("meaning 5 0 99", Run.BAD).due("meaning 0 0 99", Run.NONE);
        Run.fresh().due("undo", Run.NO).due("back", Run.NO).due("spoiled 2", Run.BAD).due("spoiled 1", Run.NONE)
            .row("11").then("tell 0").due("secret 2", Run.BAD).due("secret 1", Run.NONE);
    }
}
