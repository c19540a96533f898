/** The boundaries that part 4 of the document names, sentence by sentence: secrets, chance, days, what is kept (promises 22 to 29). */
public final class SecretEdgeTest {
    private static final int BAD = Run.BAD, NO = Run.NO, FULL = Run.FULL, NONE = Run.NONE;
    private static final int MIN = Run.MIN, MAX = Run.MAX;
    private static final String ALL = "drum 0 0, drum 0 1, drum 0 2, drum 0 3, drum 0 4, drum 0 5, drum 0 6, drum 0 7";

    public static void main(String[] args) {
        threeTold();
        toldAsItIs();
        forgotten();
        lastHundredMinutes();
        behindThoseOfThatMinute();
        firstByPlaceSortMinute();
        notHeardYet();
        secretNone();
        secretArguments();
        chanceOfNoneToFour();
        chanceInLowestTerms();
        chanceWhenTheLastIsHeard();
        chanceArguments();
        daysOfOneBeat();
        daysToTheLast();
        dayArguments();
        twoKept();
        backToTheLastKept();
        countArguments();
        Run.end("secret edges");
    }

    private static Run at(String text, int minute) {
        Run run = Run.laid(text);
        for (int left = minute; left > 0; left -= 600) run.then("pass " + Math.min(600, left));
        return run;
    }

    /** "of some PLACES (3 at most)"; "BAD; NO: it is told of that PLACE; FULL." */
    private static void threeTold() {
        for (int n = 1; n <= 5; n++) {
            Run run = Run.laid("p" + n + ";");
            for (int no : new int[] {-1, n, MIN, MAX}) run.still("tell " + no, BAD);
            for (int p = 0; p < Math.min(3, n); p++) run.due("tell " + p, p + 1).still("tell " + p, NO).due("count 6", p + 1);
            for (int p = 3; p < n; p++) run.still("tell " + p, FULL);
            for (int p = 0; p < Math.min(3, n); p++) run.still("tell " + p, NO);
            run.still("tell " + n, BAD).still("tell -1", BAD).due("count 6", Math.min(3, n)).due("forget", Math.min(3, n));
        }
        Run.laid("p5;").due("tell 4", 1).due("tell 2", 2).due("tell 3", 3).still("tell 0", FULL).still("tell 4", NO).still("tell 5", BAD);
        // what is refused is not told in the stead of another: not of its place, and not with the row that is told now
        String near = "p4;x0,1,0;x0,2,0;x0,3,0;x1,2,0;x1,3,0;x2,3,0;";
        Run.laid(near).row("3").then("tell 0, tell 1, tell 2, noRow").still("tell 3", FULL).still("tell 2", NO).still("tell 0", NO)
            .still("tell 4", BAD).due("secret 0", 4).due("secret 1", 30000).due("forget", 3);
    }

    /** "(the told one, as it is when it is told so)" */
    private static void toldAsItIs() {
        Run.laid("p1;f2;").row("1").then("tell 0").row("0").due("secret 0", 1).due("secret 1", 10000).then("noRow").due("secret 1", 10000);
        Run.laid("p1;f2;").then("tell 0").row("1").still("tell 0", NO).due("secret 0", 0);
        // of two places two rows
        Run.laid("p2;f2;x0,1,3;").row("1").then("tell 0, noRow, tell 1").due("secret 0", 1).due("secret 1", 10000);
        // eight sorts: seven of them stand
        Run run = Run.laid("p1;h60;").then("drum 0 0, drum 0 1, drum 0 2, drum 0 3, drum 0 4, drum 0 5, drum 0 6").row("01234567");
        run.then("tell 0").due("secret 0", 1).due("secret 1", 70000);
    }

    /** "Nothing is told of SECRETS: how many were." */
    private static void forgotten() {
        Run.fresh().still("forget", 0).due("forget", 0);
        Run.laid("p3;").then("tell 0, tell 1, tell 2").due("forget", 3).due("count 6", 0).due("forget", 0).due("tell 2", 1).due("forget", 1);
        Run.laid("p1;f2;").row("11").then("tell 0").due("secret 0", 0).then("forget").due("secret 0", 2).due("count 5", 2);
    }

    /** "at some minute of the last 100 (this one, too)" */
    private static void lastHundredMinutes() {
        int[] now = {0, 1, 98, 99, 100, 101, 600, 9998, 9999};
        for (int minute : now) {
            int minutes = Math.min(100, minute + 1);
            at("p1;f2;", minute).due("secret 0", 2 * minutes).due("secret 1", minute + 1 - minutes);
            at("p1;f2;", minute).row("1").then("tell 0").still("secret 0", minutes).still("secret 1", 10000 + minute + 1 - minutes);
            at("p5;", minute).due("secret 0", 40 * minutes).due("secret 1", minute + 1 - minutes);
        }
        // it is asked for the minutes that are the last when it is asked
        at("p1;f2;", 99).row("1").then("tell 0").due("secret 1", 10000).then("pass 1").due("secret 1", 10001).due("secret 0", 100)
            .then("undo").due("secret 1", 10000);
        // a beat of minute 0 stands: in minute 99 it may have been behind it, in minute 100 only those of minute 1
        Run.laid("p1;h60;").then("drum 0 1, pass 1, drum 0 2, pass 98").row("132").then("tell 0").due("secret 1", 30000)
            .due("secret 0", 1).then("pass 1").due("secret 0", 0).due("secret 1", NONE);
    }

    /** "behind those of that minute" */
    private static void behindThoseOfThatMinute() {
        Run.laid("p1;").then("drum 0 1").row("12").then("tell 0").due("secret 0", 1).due("secret 1", 20000);
        Run.laid("p1;").then("drum 0 1").row("21").then("tell 0").due("secret 0", 0).due("secret 1", NONE);
        Run.laid("p1;").then("pass 1, drum 0 1").row("21").then("tell 0").due("secret 0", 1).due("secret 1", 20000);
        Run.laid("p1;").then("drum 0 1, drum 0 2, pass 1, drum 0 4").row("1234").then("tell 0").due("secret 0", 1).due("secret 1", 30000);
        Run.laid("p1;").then("drum 0 1, drum 0 2, pass 1, drum 0 4").row("1324").then("tell 0").due("secret 0", 0);
        // heard with one that was drummed later: ahead of it; with one that was drummed in its minute or sooner: behind it
        Run.laid("x0,1,2;").then("pass 1, drum 1 1, pass 1, drum 0 2, pass 1").stands(0, 3, "21").row("231").then("tell 0")
            .due("secret 0", 1).due("secret 1", 30002);
        Run.laid("x0,1,2;").then("pass 1, drum 1 1, pass 2, drum 0 2").stands(0, 3, "12").row("132").then("tell 0")
            .due("secret 0", 1).due("secret 1", 130001);
        // the 1 of minute 1 is heard at 6; from 2 a beat of minute 0 is heard then, too, ahead of it, one of minute 1 behind it
        String text = "p3;x0,1,5;x0,2,6;";
        String beats = "pass 1, drum 1 1, pass 2, drum 0 2, pass 3";
        Run.laid(text).then(beats).stands(0, 6, "21").row("231").then("tell 0").due("secret 0", 5).due("secret 1", 30003);
        Run.laid(text).then(beats).row("213").then("tell 0").due("secret 0", 2).due("secret 1", 30006);
        Run.laid("p3;x0,1,5;x0,2,5;").then(beats).row("213").then("tell 0").due("secret 0", 3).due("secret 1", 30006);
    }

    /** "the first (by PLACE, then SORT, then minute), as 100000 PLACE, 10000 SORT and minute together" */
    private static void firstByPlaceSortMinute() {
        // place 1, sort 5: from 0 in the minutes 0 to 8, from 1 in the minutes 0 to 10
        Run.laid("x0,1,2;").then("pass 10").row("5").then("tell 1").due("secret 0", 20).due("secret 1", 50000);
        // not heard at 0: from 1 in the minutes 9 and 10
        Run.laid("x0,1,2;").then("pass 10").row("5").then("tell 1, noRow, tell 0").due("secret 0", 2).due("secret 1", 150009);
        // the last of all: place 4, sort 7, minute 9999; it is heard at 3 a minute later
        at("p5;x3,4,1;", 9999).row("7").then("tell 4, noRow, tell 3, tell 2").still("secret 0", 1).still("secret 1", 479999);
        at("p5;x3,4,0;", 9999).row("7").then("tell 4, noRow, tell 3, tell 2").still("secret 0", 0).still("secret 1", NONE);
        // sort ahead of minute: 0 in minute 1 (behind both, it takes both), 1 in minute 0 (the other 1 takes it and the 0)
        Run.laid("p1;l1;").then("pass 1, drum 0 0, drum 0 1, tell 0").due("secret 0", 2).due("secret 1", 1);
        // place ahead of minute: heard in the minute of the 0, from 0 in minute 5, from 1 in minute 3
        Run.laid("h1;x0,1,2;").then("pass 5, drum 0 0, tell 0").due("secret 0", 2).due("secret 1", 5);
        // place ahead of sort: from 0 a 1 in minute 5 (behind both), from 1 a 0 in minute 3 (heard ahead of both)
        Run.laid("h1;l1;x0,1,2;").then("pass 5, drum 0 1, drum 0 0, tell 0").due("secret 0", 2).due("secret 1", 10005);
    }

    /** A beat that is not heard yet changes nothing that stands. */
    private static void notHeardYet() {
        Run.laid("x0,1,3;").then("pass 5, tell 0").due("secret 0", 24).due("secret 1", 100003);
        Run.laid("x0,1,0;").then("pass 5, tell 0").due("secret 0", 0).due("secret 1", NONE);
        Run.laid("x0,1,60;").then("pass 59, tell 0").due("secret 0", 480).due("secret 1", 100000);
        Run.laid("x0,1,60;").then("pass 60, tell 0").due("secret 0", 480).due("secret 1", 100001);
        // those on their way are not heard, either
        Run.laid("p2;x0,1,3;f2;").then("drum 1 1, pass 2").row("0").then("tell 0").due("secret 0", 3).due("secret 1", 0).then("pass 1")
            .due("secret 0", 0);
    }

    private static void secretNone() {
        Run.fresh().row("11").then("tell 0").still("secret 0", 0).still("secret 1", NONE);
        Run.fresh().row("01234567").then("tell 0").still("secret 0", 0).still("secret 1", NONE);
        Run.fresh().still("secret 0", 16).still("secret 1", 0);
        // nothing that is told ends by itself: where all is so already, one beat more must not spoil it
        Run.laid("p1;").then("drum 0 1").row("1").then("tell 0").due("secret 0", 0);
        // behind the last beat that there is room for
        Run full = Run.laid("p1;");
        for (int i = 0; i < 24; i++) full.then("drum 0 0");
        full.due("drum 0 0", FULL).row("6").then("tell 0").still("secret 0", 1).still("secret 1", 60000);
    }

    private static void secretArguments() {
        for (int what : new int[] {-1, 2, 3, MIN, MAX}) {
            Run.fresh().still("secret " + what, BAD);
            Run.fresh().row("11").then("tell 0").still("secret " + what, BAD);
        }
    }

    private static void chance(Run run, String what, int above, int below) {
        run.due("chance " + what + " 0", above).due("chance " + what + " 1", below);
    }

    /** "in each of n (0 to 4) minutes, this one first, one of all SORTS .. (now, if n is 0)" */
    private static void chanceOfNoneToFour() {
        // an hour of a minute: none is taken back, so that it is 1 less what never has it
        int[][] good = {{0, 1}, {1, 2}, {3, 4}, {7, 8}, {15, 16}};
        int[][] eight = {{0, 1}, {1, 8}, {15, 64}, {169, 512}, {1695, 4096}};
        // an hour of sixty: it stands if it came once or thrice
        int[][] six = {{0, 1}, {1, 6}, {5, 18}, {19, 54}, {65, 162}};
        int[][] most = {{0, 1}, {1, 8}, {7, 32}, {37, 128}, {175, 512}};
        for (int n = 0; n <= 4; n++) {
            chance(Run.laid("f2;h1;"), "0 1 " + n, good[n][0], good[n][1]);
            chance(Run.laid("h1;"), "0 7 " + n, eight[n][0], eight[n][1]);
            chance(Run.laid("f6;h60;"), "0 5 " + n, six[n][0], six[n][1]);
            chance(Run.laid("h60;"), "1 0 " + n, most[n][0], most[n][1]);
        }
        // with two sorts, odd times in one, two, three, four: the half of all
        for (int n = 1; n <= 4; n++) chance(Run.laid("f2;h60;"), "0 0 " + n, 1, 2);
        Run.laid("h60;").still("chance 0 0 4 0", 175).still("chance 0 0 4 1", 512).still("chance 0 0 0 0", 0);
    }

    /** "in lowest terms" */
    private static void chanceInLowestTerms() {
        chance(Run.fresh(), "0 0 0", 0, 1);
        chance(Run.fresh().then("drum 0 0"), "0 0 0", 1, 1);
        // said for good: it is certain, whatever comes
        for (int n = 0; n <= 4; n++) chance(Run.laid("h1;").then("drum 0 3, pass 1"), "0 3 " + n, 1, 1);
        // it stands and is not said: 7 of 8 leave it
        chance(Run.laid("h60;").then("drum 0 3"), "0 3 1", 7, 8);
        // by THRICE: one stands, so one more never hurts, and two more take one of two
        for (int n = 0; n <= 4; n++) chance(Run.laid("l2;h60;").then("drum 0 3"), "0 3 " + n, 1, 1);
        // by SINCE the one ahead takes it, too: 0 or 1 of three
        chance(Run.laid("l1;f3;").then("drum 0 0, drum 0 1"), "0 1 1", 1, 3);
        chance(Run.laid("l1;f3;").then("drum 0 0, drum 0 1"), "0 0 1", 2, 3);
    }

    /** "the chance that one of SORT s STANDS there when the last is heard" */
    private static void chanceWhenTheLastIsHeard() {
        // sort 1 is heard at place 1 in minute 3: with the fourth beat, ahead of it; a minute later it is not heard
        // of 8 beats each: 1 did not stand ahead of it (even times in three: 364 of 512), then it comes, and 7 of 8 leave it;
        // or it stood (148 of 512), then it is taken back, and 1 of 8 brings it
        int above = 364 * 7 + 148;
        chance(Run.laid("x0,1,3;h60;").then("drum 0 1"), "1 1 4", above / 8, 4096 / 8);
        chance(Run.laid("x0,1,4;h60;").then("drum 0 1"), "1 1 4", 175, 512);
        chance(Run.laid("x0,1,3;h60;").then("drum 0 1"), "1 1 3", 37, 128);
        // of minute 0 with the first
        chance(Run.laid("x0,1,0;h60;").then("drum 0 1"), "1 1 1", 7, 8);
        chance(Run.laid("x0,1,0;h60;").then("drum 0 1"), "1 1 0", 1, 1);
        chance(Run.laid("x0,1,1;h60;").then("drum 0 1"), "1 1 0", 0, 1);
        // the hour ends within the four minutes: heard at 0, hour 3, now 0: what comes in the minutes 0 to 2 may take it, in 3 not
        chance(Run.laid("h3;f2;").then("drum 0 1, pass 2"), "0 1 1", 1, 2);
        chance(Run.laid("h3;f2;").then("drum 0 1, pass 3"), "0 1 1", 1, 1);
        // behind the last minute and the last beat
        Run last = at("h60;", 9999);
        last.still("chance 0 0 4 0", 175);
        Run full = Run.laid("h60;").then(ALL).then(ALL).then(ALL);
        full.due("drum 0 0", FULL);
        chance(full, "0 0 1", 7, 8);
        // 24 stand, and four more come behind them: it is in none of these, or in one of them
        Run most = Run.laid("h1;");
        for (int i = 0; i < 24; i++) most.then("drum 0 0, pass 1");
        most.due("stands 0 24 -1", 24);
        chance(most, "0 7 4", 1695, 4096);
        chance(most, "0 7 1", 1, 8);
    }

    /** "By CHANCE: above (part = 0), below (1). BAD." */
    private static void chanceArguments() {
        Run run = Run.laid("p3;f4;").then("drum 0 1");
        for (int p : new int[] {-1, 3, 5, MIN, MAX}) run.still("chance " + p + " 0 1 0", BAD);
        for (int s : new int[] {-1, 4, 7, 8, MIN, MAX}) run.still("chance 0 " + s + " 1 0", BAD);
        for (int n : new int[] {-1, 5, 6, MIN, MAX}) run.still("chance 0 0 " + n + " 0", BAD).still("chance 0 0 " + n + " 1", BAD);
        for (int part : new int[] {-1, 2, 3, MIN, MAX}) run.still("chance 0 0 1 " + part, BAD);
        run.due("chance 2 3 0 1", 1).due("chance 2 3 4 1", 32).due("chance 3 4 5 2", BAD);
    }

    /** "A DAY by z (0 to 9999) of n (1 to 99) BEATS": one beat stands, wherever it was drummed, at every place. */
    private static void daysOfOneBeat() {
        for (int z : new int[] {0, 1, 2, 5000, 9998, 9999}) {
            Run run = Run.laid("p5;x0,4,60;");
            for (int p = 0; p < 5; p++) run.still("day " + z + " 1 " + p, 1);
        }
    }

    /** Worked out by another program: z, n, places 0 and 1 without a text; place 4; by THRICE. */
    private static void daysToTheLast() {
        int[][] due = {{0, 2, 2, 2, 2, 2}, {0, 3, 3, 3, 3, 3}, {0, 98, 16, 18, 1, 26}, {0, 99, 17, 17, 2, 27}, {1, 2, 0, 0, 0, 2},
            {1, 99, 17, 17, 5, 29}, {9998, 98, 14, 14, 1, 30}, {9998, 99, 15, 15, 1, 31}, {9999, 2, 0, 0, 0, 2}, {9999, 3, 1, 1, 1, 3},
            {9999, 98, 12, 14, 3, 34}, {9999, 99, 13, 15, 2, 33}};
        for (int[] d : due) {
            String day = "day " + d[0] + " " + d[1] + " ";
            Run.fresh().still(day + 0, d[2]).due(day + 1, d[3]);
            Run.laid("p5;x0,4,60;x1,3,0;h60;l1;").due(day + 4, d[4]);
            Run.laid("l2;h60;").due(day + 1, d[5]);
        }
        // one place, two sorts, an hour of a minute: nearly all of 99 stand
        Run.laid("p1;f2;h1;l2;").due("day 9999 99 0", 99).due("day 0 99 0", 95).due("day 1 98 0", 96);
        // the beats that were drummed are none of a day's, full or not
        Run.fresh().then(ALL).then(ALL).then(ALL).then("pass 600").still("day 9999 99 0", 13);
    }

    private static void dayArguments() {
        Run run = Run.laid("p3;").then("drum 0 1");
        for (int z : new int[] {-1, 10000, 10001, MIN, MAX}) run.still("day " + z + " 1 0", BAD);
        for (int n : new int[] {0, -1, 100, 101, MIN, MAX}) run.still("day 0 " + n + " 0", BAD);
        for (int p : new int[] {-1, 3, 5, MIN, MAX}) run.still("day 0 1 " + p, BAD);
        run.due("day 0 1 2", 1).due("day 10000 100 3", BAD).due("day -1 0 -1", BAD);
    }

    /** "KEPT are BEATS and the minute: 2 at most." "KEPT: how many. FULL." */
    private static void twoKept() {
        Run.fresh().due("keep", 1).due("count 8", 1).due("keep", 2).still("keep", FULL).due("count 8", 2).due("back", 1).due("keep", 2)
            .still("keep", FULL).due("back", 1).due("back", 0).due("count 8", 0).still("back", NO);
        // keeping changes nothing else
        Run run = Run.laid("p3;").then("drum 0 1, pass 3, drum 1 2").row("12").then("tell 0").due("keep", 1);
        int[] due = {3, 8, 0, 2, 3, 2, 1, 3, 1, 3};
        for (int what = 0; what < 10; what++) run.due("count " + what, due[what]);
        run.due("undo", 2).due("undo", 1).due("undo", 0);
        // what is FULL is not kept in the stead of another
        Run.fresh().then("pass 1, keep, pass 1, keep, pass 1").still("keep", FULL).due("back", 1).due("count 4", 2).due("back", 0)
            .due("count 4", 1);
        // all 24, in the last minute
        at("", 9999).then(ALL).then(ALL).then(ALL).due("keep", 1).then("undo, undo").due("count 3", 22).due("back", 0)
            .due("count 3", 24).due("count 4", 9999).due("beat 23 1", 7).due("beat 23 2", 9999).still("pass 1", NO).still("drum 0 0", FULL);
    }

    /** "As KEPT last: how many are left; nothing is UNDONE then. NO." */
    private static void backToTheLastKept() {
        Run.fresh().still("back", NO);
        Run.fresh().then("drum 0 1, pass 1").still("back", NO).due("count 7", 2);
        Run.fresh().then("keep, lay").still("back", NO);
        Run run = Run.laid("p3;").then("drum 2 1, pass 4, keep, drum 1 2, pass 5, drum 0 3, keep, undo, undo, pass 600, drum 0 7");
        run.due("back", 1).due("count 3", 3).due("count 4", 9).due("count 7", 0).still("undo", NO);
        run.due("beat 0 0", 2).due("beat 1 1", 2).due("beat 2 2", 9).due("beat 3 0", BAD).stands(0, 9, "123");
        run.due("pass 1", 10).due("count 7", 1).due("back", 0).due("count 3", 1).due("count 4", 4).due("count 7", 0).still("undo", NO)
            .due("beat 0 0", 2).due("beat 0 1", 1).due("beat 0 2", 0).due("beat 1 0", BAD).still("back", NO);
        // each beat is kept whole, from the first on
        Run.laid("p3;").then("pass 1, drum 2 5, keep, undo, undo, drum 1 6").due("beat 0 0", 1).due("back", 0).due("beat 0 0", 2)
            .due("beat 0 1", 5).due("beat 0 2", 1).due("count 4", 1);
        Run.laid("p3;").then("drum 2 5, pass 1, drum 1 4, keep, undo, undo, undo, pass 9, drum 0 7, pass 9, drum 0 6").due("back", 0)
            .due("beat 0 0", 2).due("beat 0 1", 5).due("beat 0 2", 0).due("beat 1 0", 1).due("beat 1 1", 4).due("beat 1 2", 1);
        // the told row, what is told of secrets, the text and what is laid are not kept
        Run other = Run.laid("p3;").row("1").then("tell 0, keep").row("22").then("tell 1, tell 2").put("h5;").due("back", 0);
        int[] due = {3, 8, 0, 0, 0, 2, 3, 0, 0, 6};
        for (int what = 0; what < 10; what++) other.due("count " + what, due[what]);
    }

    /** "0 PLACES .. 9 bytes of THE TEXT. BAD." */
    private static void countArguments() {
        Run run = Run.laid("p4;f3;w1;w2;").then("drum 0 1, pass 4").row("12").then("tell 0, keep");
        int[] due = {4, 3, 2, 1, 4, 2, 1, 2, 1, 12};
        for (int what = 0; what < 10; what++) run.still("count " + what, due[what]);
        for (int what : new int[] {-1, 10, 11, MIN, MAX}) run.still("count " + what, BAD);
        // each at its most
        Run full = at("p5;f8;w0;w1;w2;w3;w4;w5;w6;w7;", 9999).then(ALL).then(ALL).then(ALL).row("01234567").then("tell 0, tell 1, tell 2")
            .then("keep, keep").put("h5;".repeat(90));
        int[] most = {5, 8, 8, 24, 9999, 8, 3, 8, 2, 300};
        for (int what = 0; what < 10; what++) full.due("count " + what, most[what]);
    }
}
