/** The boundaries that part 2 of the document names, sentence by sentence: beats, minutes, what stands (promises 8 to 14). */
public final class BeatEdgeTest {
    private static final int BAD = Run.BAD, NO = Run.NO, FULL = Run.FULL, NONE = Run.NONE;
    private static final int MIN = Run.MIN, MAX = Run.MAX;

    public static void main(String[] args) {
        drumArguments();
        twentyFourBeats();
        minutesToPass();
        lastMinute();
        nothingToUndo();
        lastEightUndone();
        refusedIsNoStep();
        beatArguments();
        heardAtOnceAndLater();
        oneMinuteInTheOrderDrummed();
        lessThanAnHour();
        hourByHearing();
        takenBackDoesNotCome();
        allThatAreBehind();
        twoSuchOnes();
        standsArguments();
        saidAnHourAhead();
        saidArguments();
        longestWord();
        wordsAtTheEndOfWhatIsSaid();
        meaningArguments();
        Run.end("beat edges");
    }

    /** At a minute that pass reaches by steps of 600 at most. */
    private static Run at(String text, int minute) {
        Run run = Run.laid(text);
        for (int left = minute; left > 0; left -= 600) run.then("pass " + Math.min(600, left));
        return run.due("count 4", minute);
    }

    private static Run beats(Run run, int n) {
        for (int i = 0; i < n; i++) run.then("drum 0 " + i % 8);
        return run;
    }

    /** "A BEAT is DRUMMED: how many were. BAD" */
    private static void drumArguments() {
        for (int n = 1; n <= 5; n++) {
            Run run = Run.laid("p" + n + ";f3;").due("drum " + (n - 1) + " 2", 1).due("drum 0 0", 2);
            for (int p : new int[] {-1, n, MIN, MAX}) run.still("drum " + p + " 0", BAD);
            for (int s : new int[] {-1, 3, 7, 8, MIN, MAX}) run.still("drum 0 " + s, BAD);
            run.still("drum " + n + " 3", BAD).due("count 3", 2).due("drum 0 1", 3);
        }
    }

    /** "A BEAT of a SORT is DRUMMED at a PLACE, now (24 at most)", "FULL" */
    private static void twentyFourBeats() {
        Run run = Run.fresh();
        for (int n = 1; n <= 24; n++) run.due("drum " + n % 2 + " " + n % 8, n);
        run.still("drum 0 0", FULL).still("drum 1 7", FULL).still("drum 2 0", BAD).still("drum 0 8", BAD).due("count 3", 24);
        run.due("beat 23 0", 0).due("beat 23 1", 0).due("beat 24 0", BAD);
        // minutes go by yet; it is full as before; what is undone makes room
        run.due("pass 600", 600).due("drum 0 0", FULL).due("undo", 7).due("undo", 6).due("count 3", 23).due("drum 1 5", 24)
            .due("beat 23 1", 5).still("drum 0 0", FULL);
        // those that were taken back are drummed all the same
        Run gone = Run.fresh();
        for (int i = 0; i < 24; i++) gone.then("drum 0 3");
        gone.stands(0, 0, "").still("drum 0 3", FULL);
        // back to fewer makes room, back to 24 does not
        beats(beats(Run.fresh(), 23).then("keep"), 1).due("drum 0 0", FULL).due("back", 0).due("count 3", 23).due("drum 0 0", 24);
        beats(Run.fresh(), 24).then("keep, undo").due("back", 0).due("count 3", 24).still("drum 0 0", FULL);
    }

    /** "n minutes (1 to 600) go by: the minute. BAD" */
    private static void minutesToPass() {
        for (int n : new int[] {0, -1, -600, 601, 602, 9999, 10000, MIN, MIN + 1, MAX}) {
            Run.fresh().still("pass " + n, BAD);
            at("", 9998).still("pass " + n, BAD);
        }
        Run.fresh().due("pass 1", 1).due("count 4", 1).due("pass 600", 601).due("pass 599", 1200).due("pass 2", 1202);
    }

    /** "NO: above 9999." */
    private static void lastMinute() {
        at("", 9399).due("pass 600", 9999).due("count 4", 9999).still("pass 1", NO).still("pass 600", NO).still("pass 601", BAD)
            .still("pass 0", BAD).due("undo", 7).due("count 4", 9399);
        at("", 9400).still("pass 600", NO).due("pass 599", 9999).still("pass 1", NO);
        at("", 9998).still("pass 2", NO).due("pass 1", 9999);
        // beats can be drummed in the last minute, and are heard at their own place and where it takes no time
        at("p3;x0,1,0;", 9999).due("drum 0 1", 1).due("beat 0 2", 9999).stands(0, 9999, "1").stands(1, 9999, "1")
            .stands(2, 9999, "").due("open 0", 1).due("takes 0", 0).due("mends 0", 1).due("said 0 9999", 0);
    }

    /** "UNDONE: how many more can be. NO." */
    private static void nothingToUndo() {
        Run.fresh().still("undo", NO).due("count 7", 0);
        Run.laid("p3;").still("undo", NO);
        Run.fresh().then("drum 0 1").due("undo", 0).still("undo", NO).sameAs(Run.fresh(), "as new behind the undone beat");
        Run.fresh().then("pass 600").due("undo", 0).still("undo", NO).sameAs(Run.fresh(), "as new behind the undone minutes");
        Run.fresh().then("drum 0 1, keep, back").still("undo", NO).due("count 3", 1);
        Run.fresh().then("drum 0 1, lay").still("undo", NO);
    }

    /** "UNDONE is the latest of these (the last 8 can be)." */
    private static void lastEightUndone() {
        for (int steps = 1; steps <= 12; steps++) {
            Run run = Run.fresh();
            for (int i = 1; i <= steps; i++) run.then("pass " + i).due("count 7", Math.min(8, i));
            int minute = steps * (steps + 1) / 2;
            for (int i = 0; i < Math.min(8, steps); i++) {
                run.due("undo", Math.min(8, steps) - 1 - i);
                minute -= steps - i;
                run.due("count 4", minute);
            }
            run.still("undo", NO);
        }
        // beats and minutes alike
        Run.fresh().then("drum 0 1, pass 1, drum 0 2, pass 2, drum 0 3, pass 3, drum 0 4, pass 4, drum 0 5").due("count 7", 8)
            .due("undo", 7).due("count 3", 4).due("count 4", 10).due("undo", 6).due("count 4", 6).due("undo", 5).due("count 3", 3)
            .then("undo, undo, undo, undo").due("count 4", 1).due("count 3", 1).due("undo", 0).due("count 4", 0).due("count 3", 1)
            .still("undo", NO).due("beat 0 1", 1);
        // what was undone is gone, what comes in its stead counts anew
        Run.fresh().then("pass 1, pass 1, pass 1, pass 1, pass 1, pass 1, pass 1, pass 1, undo, undo, undo").due("count 7", 5)
            .then("drum 0 1, pass 7, drum 0 2").due("count 7", 8).due("pass 9", 21).due("count 7", 8).due("undo", 7)
            .due("count 4", 12).then("undo, undo, undo").due("count 4", 5).due("count 3", 0).then("undo, undo, undo")
            .due("undo", 0).due("count 4", 1).still("undo", NO);
        // a minute that was undone is drummed in again
        Run.fresh().then("pass 5, drum 0 1, pass 5, undo, drum 0 2").due("beat 1 2", 5).due("count 4", 5);
    }

    /** What is refused, what only asks, and keep are no steps. */
    private static void refusedIsNoStep() {
        Run.fresh().then("drum 0 1, pass 0, pass 601, drum 2 0, drum 0 8, stands 0 0 -1, add 1, tell 0, keep, takes 0, noRow, forget")
            .due("count 7", 1).due("undo", 0).due("count 3", 0);
        at("", 9999).then("drum 0 1, pass 1").due("count 7", 8).due("undo", 7).due("count 3", 0).due("count 4", 9999);
        beats(Run.fresh(), 24).then("pass 1, drum 0 0").due("undo", 7).due("count 4", 0).due("count 3", 24);
        Run.fresh().then("pass 3, back").due("count 7", 1).put("q").then("lay").due("undo", 0).due("count 4", 0);
    }

    /** "Of a BEAT: PLACE (what = 0), SORT (1), minute (2). BAD." */
    private static void beatArguments() {
        Run.fresh().still("beat 0 0", BAD).still("beat -1 0", BAD).due("beat 0 3", BAD);
        Run run = Run.laid("p5;").then("drum 4 7, pass 600, drum 0 0").due("beat 0 0", 4).due("beat 0 1", 7).due("beat 0 2", 0)
            .due("beat 1 0", 0).due("beat 1 1", 0).due("beat 1 2", 600);
        for (int i : new int[] {-1, 2, 23, 24, MIN, MAX}) {
            for (int what = 0; what < 3; what++) run.due("beat " + i + " " + what, BAD);
        }
        run.still("beat 2 0", BAD).still("beat -1 2", BAD);
        for (int what : new int[] {-1, 3, MIN, MAX}) run.still("beat 0 " + what, BAD);
        run.then("undo").due("beat 1 0", BAD).due("beat 0 0", 4);
        at("", 9999).then("drum 0 1").due("beat 0 2", 9999);
    }

    /** "At its own PLACE a BEAT is heard at once." */
    private static void heardAtOnceAndLater() {
        Run run = Run.laid("p3;x0,1,0;x0,2,60;").then("pass 10, drum 0 4");
        run.stands(0, 9, "").stands(0, 10, "4").stands(1, 9, "").stands(1, 10, "4").stands(2, 69, "").stands(2, 70, "4");
        // what is drummed so far is all that is heard, at any minute, also one ahead of now
        run.then("pass 5").stands(0, 9999, "4").stands(0, 0, "").stands(2, 15, "").due("said 0 0", 0);
    }

    /** "heard by their minutes of hearing, those of one minute in the order in which they were drummed." */
    private static void oneMinuteInTheOrderDrummed() {
        // 1 is drummed first and heard at place 1 in minute 5, with the 2 and the 3 that are drummed there then
        Run run = Run.laid("x0,1,5;").then("drum 0 1, pass 5, drum 1 2, drum 1 3").stands(1, 4, "").stands(1, 5, "123");
        run.stands(0, 9, "1").stands(0, 10, "123");
        // a minute sooner it is the other way round
        Run.laid("x0,1,5;").then("drum 0 1, pass 4, drum 1 2, pass 1, drum 1 3").stands(1, 4, "2").stands(1, 5, "213");
        // nothing is between what is drummed in one minute at places that it takes no time between
        Run.laid("x0,1,0;").then("drum 1 5, drum 0 6, drum 1 7").stands(0, 0, "567").stands(1, 0, "567");
        // the order decides who is taken back: 1 comes, 1 goes, 1 comes
        Run.laid("x0,1,5;").then("drum 0 1, pass 5, drum 1 1").stands(1, 5, "").then("drum 1 1").stands(1, 5, "1");
    }

    /** "If of the SORT of what is heard one STANDS that was heard less than an HOUR ahead of it" */
    private static void lessThanAnHour() {
        for (int hour : new int[] {1, 2, 20, 60}) {
            for (int law = 0; law < 3; law++) {
                String text = "h" + hour + ";l" + law + ";";
                String ahead = law == 2 ? "drum 0 4, drum 0 3, drum 0 3, drum 0 5" : "drum 0 4, drum 0 3, drum 0 5";
                String all = law == 2 ? "4335" : "435";
                Run in = Run.laid(text).then(ahead);
                if (hour > 1) in.then("pass " + (hour - 1));
                in.then("drum 0 3").stands(0, hour - 1, law == 0 ? "45" : law == 1 ? "4" : "435");
                Run.laid(text).then(ahead).then("pass " + hour + ", drum 0 3").stands(0, hour, all + "3");
                // another sort takes none back
                Run.laid(text).then(ahead).then("drum 0 6").stands(0, 0, all + "6");
            }
        }
    }

    /** The hour is of minutes of hearing, there. */
    private static void hourByHearing() {
        // at place 1: heard at 4 and 8; at place 0: at 0 and 12
        Run.laid("x0,1,4;h5;").then("drum 0 1, pass 8, drum 1 1").stands(1, 8, "").stands(0, 12, "11");
        // at place 1: heard at 4 and 9
        Run.laid("x0,1,4;h5;").then("drum 0 1, pass 9, drum 1 1").stands(1, 9, "11").stands(0, 13, "11");
        // drummed in one minute, but heard an hour apart
        Run.laid("x0,1,5;h5;").then("drum 0 1, drum 1 1").stands(0, 5, "11").stands(1, 5, "11");
        Run.laid("x0,1,4;h5;").then("drum 0 1, drum 1 1").stands(0, 3, "1").stands(0, 4, "").stands(1, 3, "1").stands(1, 4, "");
    }

    /** "the latest of these goes, and what is heard does not come" */
    private static void takenBackDoesNotCome() {
        Run.laid("h5;").then("drum 0 1, drum 0 1").stands(0, 0, "").then("drum 0 1").stands(0, 0, "1").then("drum 0 1").stands(0, 0, "");
        // the third is heard at 4, so its own hour is what counts for the fourth: 4 + 5
        Run.laid("h5;").then("drum 0 1, pass 2, drum 0 1, pass 2, drum 0 1, pass 4, drum 0 1").stands(0, 8, "");
        Run.laid("h5;").then("drum 0 1, pass 2, drum 0 1, pass 2, drum 0 1, pass 5, drum 0 1").stands(0, 9, "11");
        // what did not come takes none back: the second of three is nothing to the third
        Run.laid("h5;").then("drum 0 1, pass 4, drum 0 1, pass 1, drum 0 1").stands(0, 5, "1");
        // the one an hour ahead stays, the later one goes
        Run.laid("h5;").then("drum 0 1, pass 5, drum 0 1, drum 0 2, drum 0 1").stands(0, 5, "12");
        Run.laid("h5;l1;").then("drum 0 1, pass 5, drum 0 1, drum 0 2, drum 0 1").stands(0, 5, "1");
    }

    /** "by SINCE all that are behind that one go, too" */
    private static void allThatAreBehind() {
        String all = "drum 0 0, drum 0 1, drum 0 2, drum 0 3, drum 0 4, drum 0 5, drum 0 6, drum 0 7";
        for (int s = 0; s < 8; s++) {
            Run.laid("l1;").then(all).then("drum 0 " + s).stands(0, 0, "01234567".substring(0, s));
            Run.laid("l0;").then(all).then("drum 0 " + s).stands(0, 0, "01234567".replace("" + s, ""));
        }
    }

    /** "by THRICE it is so only if two such ones STAND." */
    private static void twoSuchOnes() {
        Run.laid("l2;").then("drum 0 1").stands(0, 0, "1").then("drum 0 1").stands(0, 0, "11").then("drum 0 1").stands(0, 0, "1")
            .then("drum 0 1").stands(0, 0, "11");
        Run.laid("l2;").then("drum 0 1, drum 0 2, drum 0 1, drum 0 3, drum 0 1").stands(0, 0, "123");
        // both less than an hour ahead: the first is at 0, the second at 3, the hour is 5
        Run.laid("l2;h5;").then("drum 0 1, pass 3, drum 0 1, pass 1, drum 0 1").stands(0, 4, "1");
        Run.laid("l2;h5;").then("drum 0 1, pass 3, drum 0 1, pass 2, drum 0 1").stands(0, 5, "111");
        Run.laid("l2;h5;").then("drum 0 1, pass 3, drum 0 1, pass 2, drum 0 1, pass 2, drum 0 1").stands(0, 7, "11");
        Run.laid("l2;h5;").then("drum 0 1, pass 3, drum 0 1, pass 2, drum 0 1, pass 3, drum 0 1").stands(0, 8, "1111");
        Run.laid("l2;h1;").then("drum 0 1, drum 0 1, pass 1, drum 0 1").stands(0, 1, "111");
    }

    /** "at a minute t (0 to 9999; ..) (k = -1), the SORT of the k-th. NONE; BAD (k below -1)." */
    private static void standsArguments() {
        Run run = Run.laid("p3;").then("drum 0 6, drum 0 7");
        run.due("stands 0 0 -1", 2).due("stands 0 0 0", 6).due("stands 0 0 1", 7).still("stands 0 0 2", NONE)
            .due("stands 0 0 3", NONE).due("stands 0 0 24", NONE).due("stands 0 0 " + MAX, NONE);
        run.still("stands 0 0 -2", BAD).due("stands 0 0 -3", BAD).due("stands 0 0 " + MIN, BAD);
        run.due("stands 0 9999 -1", 2).still("stands 0 10000 -1", BAD).due("stands 0 10001 0", BAD).due("stands 0 " + MAX + " -1", BAD);
        run.still("stands 0 -1 -1", BAD).due("stands 0 -2 0", BAD).due("stands 0 " + MIN + " -1", BAD);
        run.due("stands 2 9999 1", 7).still("stands 3 0 -1", BAD).still("stands -1 0 -1", BAD).due("stands " + MAX + " 0 0", BAD)
            .due("stands " + MIN + " 0 0", BAD);
        // nothing stands: none, and a wrong number is BAD ahead of that
        run.due("stands 1 2 -1", 0).due("stands 1 2 0", NONE).due("stands 1 3 0", 6).due("stands 1 2 -2", BAD).due("stands 3 2 0", BAD)
            .due("stands 1 10000 5", BAD).due("stands 3 10000 -2", BAD);
        // as many as there may be: 24, one in each hour
        Run most = Run.laid("h1;f8;");
        for (int i = 0; i < 24; i++) most.then("drum 0 " + i % 3 + ", pass 1");
        most.due("stands 0 24 -1", 24).due("stands 0 24 23", 2).due("stands 0 24 24", NONE).due("stands 0 22 -1", 23);
    }

    /** "SAID ... are those of the row STANDING that were heard an HOUR ahead of that minute or more." */
    private static void saidAnHourAhead() {
        for (int hour : new int[] {1, 2, 20, 60}) {
            Run.laid("h" + hour + ";x0,1,7;").then("drum 0 1, pass 1, drum 0 2").due("said 0 0", 0).due("said 0 " + (hour - 1), 0)
                .due("said 0 " + hour, 1).due("said 0 " + (hour + 1), 2).due("said 0 9999", 2)
                .due("said 1 " + (hour + 6), 0).due("said 1 " + (hour + 7), 1).due("said 1 " + (hour + 8), 2);
        }
        at("h60;", 9939).then("drum 0 1").due("said 0 9998", 0).due("said 0 9999", 1).then("pass 1, drum 0 2").due("said 0 9999", 1);
        // said for good: what is heard an hour behind it or later takes nothing back, and one minute sooner it does
        Run.laid("h5;").then("drum 0 1, pass 4, drum 0 1").due("said 0 5", 0).due("said 0 9999", 0);
        Run.laid("h5;").then("drum 0 1, pass 5, drum 0 1").due("said 0 5", 1).due("said 0 9", 1).due("said 0 10", 2);
        // asked for a minute that has gone by, what stood then counts: at 4 the first was there, but not an hour old
        Run.laid("h5;l1;").then("drum 0 1, pass 3, drum 0 2, pass 2, drum 0 2").due("said 0 4", 0).due("said 0 5", 1).due("said 0 9", 1);
    }

    /** "How many are SAID at a PLACE at a minute t. BAD." */
    private static void saidArguments() {
        Run run = Run.laid("p3;").then("drum 0 1");
        for (int p : new int[] {-1, 3, 5, MIN, MAX}) run.still("said " + p + " 0", BAD);
        for (int t : new int[] {-1, 10000, MIN, MAX}) run.still("said 0 " + t, BAD);
        run.due("said 3 10000", BAD).due("said 0 9999", 1).due("said 2 9999", 1).due("said 0 0", 0);
    }

    /** Drums sorts one a minute at place 0 with an hour of one minute, so that all of them are said. */
    private static Run told(String text, String sorts) {
        Run run = Run.laid("h1;" + text);
        for (char s : sorts.toCharArray()) run.then("drum 0 " + s + ", pass 1");
        return run;
    }

    private static void means(String text, String sorts, String words) {
        Run run = told(text, sorts);
        for (int i = 0; i < words.length(); i++) run.due("meaning 0 9999 " + i, words.charAt(i) - '0');
        run.due("meaning 0 9999 " + words.length(), NONE).due("meaning 0 9999 " + MAX, NONE);
    }

    /** "at each SORT the longest WORD that is the next SORTS of it (its number; read on behind it), else it is left out" */
    private static void longestWord() {
        means("w0;w00;w000;w0000;", "0", "0");
        means("w0;w00;w000;w0000;", "000", "2");
        means("w0;w00;w000;w0000;", "0000", "3");
        means("w0;w00;w000;w0000;", "00000", "30");
        means("w0;w00;w000;w0000;", "00000000", "33");
        means("w0000;w000;w00;w0;", "000000", "02");
        // the longest, though a shorter one would let more be read
        means("w12;w123;w345;w45;", "12345", "13");
        means("w12;w345;", "12345", "01");
        // left out: first, between, last, all
        means("w12;", "3123123", "00");
        means("w12;", "1", "");
        means("w12;", "21", "");
        means("w12;", "112", "0");
        means("w0;w1;w2;w3;w4;w5;w6;w7;", "76543210", "76543210");
        // a word whose sort there is none of is never read
        means("f2;w7;w1;", "101", "11");
        means("", "0123", "");
    }

    /** Only what is SAID is read, to its end. */
    private static void wordsAtTheEndOfWhatIsSaid() {
        Run.laid("h5;w1;w12;w123;").then("drum 0 1, pass 1, drum 0 2, pass 1, drum 0 3").due("meaning 0 4 0", NONE)
            .due("meaning 0 5 0", 0).due("meaning 0 5 1", NONE).due("meaning 0 6 0", 1).due("meaning 0 6 1", NONE)
            .due("meaning 0 7 0", 2).due("meaning 0 7 1", NONE);
        Run.laid("h5;w12;").then("drum 0 1, pass 1, drum 0 2").due("meaning 0 5 0", NONE).due("meaning 0 6 0", 0);
        at("h60;w7;", 9939).then("drum 0 7").due("meaning 0 9998 0", NONE).due("meaning 0 9999 0", 0);
    }

    /** "MEANING at a PLACE at a minute t. NONE; BAD (i below 0)." */
    private static void meaningArguments() {
        Run.fresh().still("meaning 0 0 0", NONE).due("meaning 0 9999 0", NONE).still("meaning 0 0 -1", BAD);
        Run run = told("p3;w1;", "11").due("meaning 0 2 0", 0).due("meaning 0 2 1", 0).still("meaning 0 2 2", NONE)
            .due("meaning 0 2 " + MAX, NONE).still("meaning 0 2 -1", BAD).due("meaning 0 2 " + MIN, BAD);
        for (int p : new int[] {-1, 3, MIN, MAX}) run.still("meaning " + p + " 2 0", BAD);
        for (int t : new int[] {-1, 10000, MIN, MAX}) run.still("meaning 0 " + t + " 0", BAD);
        run.due("meaning 3 2 9", BAD).due("meaning 0 10000 9", BAD).due("meaning 2 9999 1", 0);
    }
}
