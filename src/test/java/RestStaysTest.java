import java.util.List;

/** A call changes what its promise tells and nothing beside: behind what makes up for it, all is as it was. */
public final class RestStaysTest {
    private static final String TEXT = "p3;x0,1,4;x1,2,0;h15;f4;l1;w0;w01;w012;w13;";
    /** PLACES, SORTS, WORDS, BEATS, the minute, told row, SECRETS, UNDONE, KEPT, bytes. */
    private static final int[] COUNTS = {3, 4, 4, 3, 13, 3, 2, 5, 1, 44};

    public static void main(String[] args) {
        List<Integer> due = busy().seen();
        makesUp(due, "drum 2 0, undo");
        makesUp(due, "pass 600, undo");
        makesUp(due, "drum 2 0, pass 1, drum 1 1, undo, undo, undo");
        makesUp(due, "noRow, add 1, add 2, add 3");
        makesUp(due, "add 0, noRow, add 1, add 2, add 3");
        makesUp(due, "forget, noRow, add 1, add 2, tell 0, add 3, tell 2");
        makesUp(due, "tell 1, forget, noRow, add 1, add 2, tell 0, add 3, tell 2");
        busy().then("wipe").put(TEXT + "q").seesAs(due, "wipe, and the text again");
        busy().then("write 8 -1, wipe").put(TEXT + "q").seesAs(due, "write, wipe, and the text again");
        keptAndBack();
        countsBehindEachCall();
        Run.end("rest stays");
    }

    private static Run busy() {
        return Run.laid(TEXT).then("drum 0 1, pass 2, drum 1 2, keep, drum 2 3, pass 11, undo, undo, pass 11, drum 2 3").row("12")
            .then("tell 0, add 3, tell 2").put("q");
    }

    private static void makesUp(List<Integer> due, String calls) {
        busy().then(calls).seesAs(due, calls + " left something changed");
    }

    /** Where nothing can be undone, back makes up for all since keep. */
    private static void keptAndBack() {
        Run run = busy().due("back", 0).due("count 7", 0);
        List<Integer> due = run.again().seen();
        for (String since : new String[] {"", ", drum 2 0", ", pass 600", ", drum 0 0, pass 1, drum 1 1, undo", ", keep, drum 1 1, back"}) {
            run.again().then("keep" + since + ", back").seesAs(due, "keep" + since + ", back left something changed");
        }
    }

    private static void countsBehindEachCall() {
        counts("drum 2 0", 3, 4, 7, 6);
        counts("pass 600", 4, 613, 7, 6);
        counts("undo", 3, 2, 7, 4);
        counts("undo, undo", 3, 2, 4, 2, 7, 3);
        counts("write 8 0", 9, 52);
        counts("wipe", 9, 0);
        counts("add 0", 5, 4);
        counts("noRow", 5, 0);
        counts("tell 1", 6, 3);
        counts("forget", 6, 0);
        counts("keep", 8, 2);
        counts("back", 3, 2, 4, 2, 7, 0, 8, 0);
        // these only ask; the text has a fault, so that lay is refused
        for (String asked : new String[] {"fault", "lay", "delay 0 1", "word 0 0", "beat 0 0", "stands 0 9 0", "said 0 99", "meaning 0 99 0",
            "unsay 2 0 2", "open 2", "takes 0", "mends 0", "spoiled 0", "secret 0", "chance 0 0 4 0", "day 9 99 0", "count 9"}) {
            counts(asked);
        }
    }

    /** What is told as a count and its number is so, and all other counts are as ahead of the calls. */
    private static void counts(String calls, int... told) {
        int[] due = COUNTS.clone();
        for (int i = 0; i < told.length; i += 2) due[told[i]] = told[i + 1];
        Run run = busy();
        for (int what = 0; what < 10; what++) run.due("count " + what, COUNTS[what]);
        run.then(calls);
        for (int what = 0; what < 10; what++) run.due("count " + what, due[what]);
        run.due("delay 0 1", 4).due("delay 2 1", 0).due("delay 0 2", 3).due("word 2 2", 2).due("word 3 1", 3);
    }
}
