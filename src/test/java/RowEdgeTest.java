/** The boundaries that part 3 of the document names, sentence by sentence: unsaying and told rows (promises 15 to 21). */
public final class RowEdgeTest {
    private static final int BAD = Run.BAD, FULL = Run.FULL, NONE = Run.NONE;
    private static final int MIN = Run.MIN, MAX = Run.MAX;
    private static final String ALL = "drum 0 0, drum 0 1, drum 0 2, drum 0 3, drum 0 4, drum 0 5, drum 0 6, drum 0 7";

    public static void main(String[] args) {
        unsayWithinTheHour();
        unsayAmongThoseOnTheirWay();
        unsayByEachLaw();
        unsayArguments();
        openCounts();
        openArguments();
        toldRow();
        takesNothing();
        takesAnHour();
        takesBehindTheOneAhead();
        takesAmongThoseOnTheirWay();
        takesTheMost();
        takesArguments();
        mendsByNoneToFour();
        mendsAMinuteLater();
        mendsWhenTheLastIsHeard();
        mendsArguments();
        spoiledByOneSort();
        spoiledFirst();
        spoiledArguments();
        Run.end("row edges");
    }

    private static Run at(String text, int minute) {
        Run run = Run.laid(text);
        for (int left = minute; left > 0; left -= 600) run.then("pass " + Math.min(600, left));
        return run;
    }

    /** "would go just when it were heard there that its SORT was DRUMMED at a PLACE now": less than an hour, with the way. */
    private static void unsayWithinTheHour() {
        for (int way = 0; way <= 6; way++) {
            for (int age = 0; age <= 6; age++) {
                Run run = Run.laid("h5;x0,1," + way + ";").then("drum 0 1");
                if (age > 0) run.then("pass " + age);
                run.due("unsay 0 0 0", age < 5 ? 1 : 0).due("unsay 0 0 1", age + way < 5 ? 1 : 0);
                run.due("unsay 1 0 1", age < way ? NONE : age - way < 5 ? 1 : 0).due("unsay 1 0 0", age < way ? NONE : age < 5 ? 1 : 0);
                run.due("open 0", age < 5 ? 1 : 0).due("open 1", age >= way && age - way < 5 ? 1 : 0);
            }
        }
        Run.laid("h1;").then("drum 0 1").due("unsay 0 0 0", 1).then("pass 1").due("unsay 0 0 0", 0);
        Run.laid("h60;x0,1,60;").then("drum 0 1").due("unsay 0 0 1", 0).due("unsay 0 0 0", 1);
        Run.laid("h60;x0,1,59;").then("drum 0 1").due("unsay 0 0 1", 1).then("pass 1").due("unsay 0 0 1", 0);
        // behind the last minute, and behind the last beat that there is room for
        at("", 9999).then("drum 0 1").still("unsay 0 0 1", 1);
        Run.laid("").then(ALL).then(ALL).then(ALL).due("count 3", 24).still("unsay 0 7 1", 1).still("open 0", 8);
        // as many as can stand: the last of 24
        Run most = Run.laid("h1;x0,1,0;").then("drum 0 5");
        for (int i = 1; i < 24; i++) most.then("pass 1, drum 0 5");
        most.due("stands 0 23 -1", 24).due("unsay 0 22 0", 0).due("unsay 0 23 0", 1).due("unsay 0 23 1", 1).due("unsay 1 23 1", 1)
            .due("unsay 0 24 0", NONE).due("open 0", 1).due("open 1", 1);
    }

    /** "(what was DRUMMED till now is heard as it comes)" */
    private static void unsayAmongThoseOnTheirWay() {
        // one on its way is heard at minute 4 and takes it back: ahead of what is heard then, too
        int[] due = {1, 0, 0};
        for (int way = 3; way <= 5; way++) {
            Run.laid("p3;x0,1,4;x0,2," + way + ";").then("drum 0 1, drum 1 1").stands(0, 0, "1").due("unsay 0 0 0", 1)
                .due("unsay 0 0 1", 0).due("unsay 0 0 2", due[way - 3]).due("open 0", 1);
            Run.laid("p3;l1;x0,1,4;x0,2," + way + ";").then("drum 0 1, drum 0 2, drum 1 1").stands(0, 0, "12")
                .due("unsay 0 1 0", 1).due("unsay 0 1 1", 0).due("unsay 0 1 2", due[way - 3]);
        }
        // by THRICE the one on its way makes two at minute 4, but then it is the latest
        Run.laid("p3;l2;x0,1,4;x0,2,5;").then("drum 0 1, drum 1 1").due("unsay 0 0 0", 0).due("unsay 0 0 1", 0).due("unsay 0 0 2", 0)
            .due("open 0", 0);
        // the one on its way takes the latest of two, and so one such stands
        Run.laid("p2;l2;x0,1,4;").then("drum 0 1, drum 0 1, drum 1 1").due("unsay 0 1 0", 1).due("unsay 0 1 1", 0).due("unsay 0 0 1", 0)
            .due("open 0", 1);
    }

    private static void unsayByEachLaw() {
        Run.laid("l0;").then("drum 0 1, drum 0 2").due("unsay 0 0 0", 1).due("unsay 0 1 0", 1).due("open 0", 2);
        Run.laid("l1;").then("drum 0 1, drum 0 2").due("unsay 0 0 0", 1).due("unsay 0 1 0", 1).due("open 0", 2);
        Run.laid("l2;").then("drum 0 1, drum 0 2").due("unsay 0 0 0", 0).due("unsay 0 1 0", 0).due("open 0", 0);
        Run.laid("l2;").then("drum 0 1, drum 0 1").due("unsay 0 0 0", 0).due("unsay 0 1 0", 1).due("open 0", 1);
        // by THRICE the first of two is an hour ahead: one such is left
        Run.laid("l2;h5;").then("drum 0 1, pass 1, drum 0 1, pass 3").due("unsay 0 1 0", 1).then("pass 1").due("unsay 0 1 0", 0);
        // an older one that is said for good stays, the later one goes
        Run.laid("h5;").then("drum 0 1, pass 5, drum 0 1").due("unsay 0 0 0", 0).due("unsay 0 1 0", 1).due("open 0", 1);
    }

    /** "UNSAY: the k-th STANDING at p now, by a BEAT at q. NONE: not so many; BAD (k below 0)." */
    private static void unsayArguments() {
        Run.fresh().still("unsay 0 0 0", NONE).due("unsay 1 0 1", NONE).still("unsay 0 -1 0", BAD);
        Run run = Run.laid("p3;").then("drum 0 6, drum 0 7").due("unsay 0 1 0", 1).still("unsay 0 2 0", NONE).due("unsay 0 24 0", NONE)
            .due("unsay 0 " + MAX + " 0", NONE).still("unsay 0 -1 0", BAD).due("unsay 0 " + MIN + " 0", BAD);
        for (int no : new int[] {-1, 3, 5, MIN, MAX}) run.still("unsay " + no + " 0 0", BAD).still("unsay 0 0 " + no, BAD);
        run.due("unsay 2 0 2", NONE).due("unsay 0 0 2", 1).due("unsay 0 2 3", BAD).due("unsay 3 2 0", BAD).due("unsay 2 -1 0", BAD);
    }

    /** "OPEN: of how many STANDING at a PLACE now that is so by one PLACE or another." */
    private static void openCounts() {
        Run.fresh().still("open 0", 0).due("open 1", 0);
        Run.laid("h5;").then(ALL).still("open 0", 8).then("pass 4").due("open 0", 8).then("pass 1").due("open 0", 0);
        Run.laid("l1;").then(ALL).due("open 0", 8);
        Run.laid("l2;").then(ALL).due("open 0", 0).then(ALL).due("stands 0 0 -1", 16).due("open 0", 8);
        Run.laid("h1;").then("drum 0 1").due("open 0", 1).then("pass 1").due("open 0", 0).then("drum 0 1").due("open 0", 1);
        Run.laid("p1;").then("drum 0 1, drum 0 2").due("open 0", 2);
        at("", 9999).then(ALL).due("open 0", 8);
    }

    private static void openArguments() {
        for (int n = 1; n <= 5; n++) {
            Run run = Run.laid("p" + n + ";").then("drum 0 1").due("open " + (n - 1), n == 1 ? 1 : 0);
            for (int no : new int[] {-1, n, MIN, MAX}) run.still("open " + no, BAD);
        }
    }

    /** "a told row of SORTS (8 at most)"; "A SORT more in the told row: how many. BAD; FULL." "No told row: how many it had." */
    private static void toldRow() {
        Run.fresh().still("noRow", 0).due("noRow", 0);
        Run run = Run.laid("f3;");
        for (int no : new int[] {-1, 3, 7, 8, MIN, MAX}) run.still("add " + no, BAD);
        for (int n = 1; n <= 8; n++) run.due("add " + n % 3, n).due("count 5", n);
        run.still("add 0", FULL).still("add 2", FULL).still("add 3", BAD).still("add -1", BAD).due("count 5", 8).due("noRow", 8)
            .due("count 5", 0).due("noRow", 0).due("add 2", 1).due("takes 0", 0).due("noRow", 1);
        // what was added behind a noRow is all there is
        Run.fresh().row("123").row("4").then("drum 0 4").due("mends 0", 0).due("count 5", 1);
    }

    /** "how many minutes from now the last is (0: no row)" */
    private static void takesNothing() {
        Run.fresh().still("takes 0", 0).due("takes 1", 0);
        // no row waits for nothing, whatever stands and whatever row there was
        Run.laid("h60;").then("drum 0 0, pass 7").still("takes 0", 0);
        Run.laid("h60;").row("5").then("noRow, drum 0 5").still("takes 0", 0);
        Run.fresh().row("1").still("takes 0", 0).due("takes 1", 0);
    }

    /** "at the first minute, from now on, .. at which it comes there behind all" */
    private static void takesAnHour() {
        for (int hour : new int[] {1, 2, 20, 59, 60}) {
            Run run = Run.laid("h" + hour + ";").then("drum 0 1").row("1").due("takes 0", hour);
            if (hour > 1) run.then("pass " + (hour - 1)).due("takes 0", 1);
            run.then("pass 1").due("takes 0", 0);
            Run.laid("h" + hour + ";").row("11").due("takes 0", hour).row("111").due("takes 0", 2 * hour);
            Run.laid("h" + hour + ";").row("33333333").still("takes 0", 7 * hour);
        }
        // by THRICE two come in each hour
        Run.laid("l2;h60;").row("1").due("takes 0", 0).row("11").due("takes 0", 1).row("111").due("takes 0", 60).row("1111")
            .due("takes 0", 61).row("11111111").due("takes 0", 181).then("drum 0 1").row("1").due("takes 0", 0).then("drum 0 1")
            .due("takes 0", 60).row("11111111").due("takes 0", 241);
        Run.laid("l1;h9;").row("121").due("takes 0", 9);
    }

    /** "of those behind the one ahead of it" */
    private static void takesBehindTheOneAhead() {
        Run.laid("h60;").row("12").due("takes 0", 1).row("123").due("takes 0", 2).row("01234567").still("takes 0", 7)
            .row("1212").due("takes 0", 61).row("1221").due("takes 0", 62);
        Run.laid("h1;").row("11").due("takes 0", 1).row("11111111").due("takes 0", 7);
        Run.laid("h2;").row("11").due("takes 0", 2).row("1212").due("takes 0", 3);
    }

    /** "(what was DRUMMED till now is heard as it comes)" */
    private static void takesAmongThoseOnTheirWay() {
        // 1 is drummed at 0 and heard at place 1 in minute 3 or 4; 2, 3, 4 take minutes 0 to 2, the told 1 would be at 3
        Run.laid("x0,1,3;").then("drum 0 1").row("2341").due("takes 1", 23);
        Run.laid("x0,1,4;").then("drum 0 1").row("2341").due("takes 1", 3);
        Run.laid("x0,1,2;").then("drum 0 1").row("2341").due("takes 1", 22);
        Run.laid("x0,1,3;").then("drum 0 1").row("1").due("takes 1", 0).then("pass 2").due("takes 1", 0).then("pass 1")
            .due("takes 1", 20).due("takes 0", 17);
        // what is on its way takes back the one that stands: then it comes at once
        Run.laid("x0,1,3;").then("drum 1 1, drum 0 1").row("1").due("takes 0", 3).due("takes 1", 3);
        Run.laid("x0,1,0;").then("drum 1 1").row("1").due("takes 0", 20);
    }

    /** "none (one would be more than 600 from now)": the most that there is are 540, the first of which wait for what is on its way. */
    private static void takesTheMost() {
        Run.laid("h60;x0,1,60;").then("drum 0 0, drum 1 0").row("0").due("takes 0", 120).row("00000000").still("takes 0", 540)
            .due("takes 1", 540);
        // minutes behind 9999 are thought of all the same
        at("", 9999).row("11").still("takes 0", 20);
        at("h60;x0,1,60;", 9999).then("drum 0 0, drum 1 0").row("00000000").due("takes 0", 540);
        // behind the last beat that there is room for
        Run.laid("").then(ALL).then(ALL).then(ALL).row("0").due("takes 0", 20).row("01234567").due("takes 0", 27);
    }

    private static void takesArguments() {
        for (int n = 1; n <= 5; n++) {
            Run run = Run.laid("p" + n + ";").row("11").due("takes " + (n - 1), 20);
            for (int no : new int[] {-1, n, MIN, MAX}) run.still("takes " + no, BAD).still("mends " + no, BAD);
        }
        Run.fresh().due("takes 2", BAD).due("takes -1", BAD);
    }

    /** "the fewest BEATS (0 to 4)"; "none." */
    private static void mendsByNoneToFour() {
        Run run = Run.laid("h60;").still("mends 0", 0);
        String row = "01234567";
        for (int n = 0; n <= 8; n++) run.row(row.substring(0, n)).due("mends 0", n <= 4 ? n : NONE);
        run.still("mends 0", NONE);
        Run back = Run.laid("h60;");
        for (int n = 0; n <= 6; n++) {
            back.due("mends 0", n <= 4 ? n : NONE);
            back.then("drum 0 " + n);
        }
        Run since = Run.laid("h60;l1;").then(ALL).due("mends 0", 1);
        since.row("01234567").due("mends 0", 0).row("0123456").due("mends 0", 1).row("01").due("mends 0", 1).row("017")
            .due("mends 0", 2).row("1").due("mends 0", 2);
        Run.laid("h60;l2;").row("11").due("mends 0", 2).row("111").due("mends 0", NONE).row("1122").due("mends 0", 4);
        // the fewest: one that stands is not taken back and said again
        Run.laid("h60;").then("drum 0 1, drum 0 2").row("12").due("mends 0", 0).row("123").due("mends 0", 1).row("21").due("mends 0", 2)
            .row("13").due("mends 0", 2).row("31").due("mends 0", 4).row("321").due("mends 0", NONE);
        // nine stand for good, and a told row has eight at most
        Run nine = Run.laid("h1;");
        for (int i = 0; i < 9; i++) nine.then("drum 0 1, pass 1");
        nine.row("11111111").due("mends 0", NONE);
        // 24 stand, and four more are thought of: a told row is shorter than that
        Run most = Run.laid("h1;");
        for (int i = 0; i < 24; i++) most.then("drum 0 1, pass 1");
        most.due("stands 0 24 -1", 24).row("11111111").due("mends 0", NONE).then("noRow").due("mends 0", NONE);
        // only of the sorts that there are
        Run.laid("f2;h60;").row("10").due("mends 0", 2).row("1010").due("mends 0", NONE);
    }

    /** "the first now, each next one a minute later" */
    private static void mendsAMinuteLater() {
        // 0 0: with an hour of one minute at once; else two that take each other back go by between them, while that is enough
        int[] due = {2, 4, 4, NONE};
        for (int hour = 1; hour <= 4; hour++) Run.laid("h" + hour + ";").row("00").due("mends 0", due[hour - 1]);
        // the first is now: it stands less than an hour yet, or an hour
        Run.laid("h2;").then("drum 0 0, pass 1").row("").due("mends 0", 1).then("pass 1").due("mends 0", NONE).row("00").due("mends 0", 1);
        Run.laid("h60;").then("drum 0 0, pass 59").row("").due("mends 0", 1).row("00").due("mends 0", 3).then("pass 1").due("mends 0", 1);
        Run.laid("h60;").then("drum 0 0, pass 57").row("00").due("mends 0", NONE).row("01230").due("mends 0", 4);
        Run.laid("h60;").then("drum 0 0, pass 56").row("00").due("mends 0", NONE).row("01230").due("mends 0", NONE);
    }

    /** "such that the told row STANDS there when the last is heard (now, if there is none)" */
    private static void mendsWhenTheLastIsHeard() {
        int[] at2 = {NONE, 4, NONE, NONE};
        int[] at3 = {NONE, NONE, 4, NONE};
        for (int way = 1; way <= 4; way++) {
            Run run = Run.laid("x0,1," + way + ";").then("drum 0 7");
            run.row("01723").due("mends 1", at2[way - 1]).row("01273").due("mends 1", at3[way - 1]);
            run.row("01237").due("mends 1", NONE);
        }
        // now, if there is none: what is heard now is heard, what comes in a minute is not
        Run.laid("x0,1,3;").then("drum 0 7, pass 2").row("").due("mends 1", 0).row("7").due("mends 1", 1).then("pass 1")
            .due("mends 1", 0).row("").due("mends 1", 1);
        Run.laid("x0,1,0;").then("drum 0 7").row("7").due("mends 1", 0);
        // behind the last minute and the last beat
        at("", 9999).row("0123").still("mends 0", 4);
        Run gone = Run.laid("");
        for (int i = 0; i < 12; i++) gone.then("drum 0 5, drum 0 5");
        gone.due("drum 0 0", FULL).row("0123").still("mends 0", 4);
    }

    private static void mendsArguments() {
        Run.fresh().due("mends 0", 0).due("mends 1", 0).due("mends 2", BAD).due("mends -1", BAD);
        Run.laid("p1;").due("mends 0", 0).due("mends 1", BAD);
        Run.laid("p5;").due("mends 4", 0).due("mends 5", BAD);
    }

    private static void spoils(String text, int howMany, int first) {
        Run.laid(text).due("spoiled 0", howMany).due("spoiled 1", first);
    }

    /** "two WORDS (i below j) of which one is the other one with one SORT left out" */
    private static void spoiledByOneSort() {
        spoils("", 0, NONE);
        spoils("w0;", 0, NONE);
        spoils("w0123;w123;", 1, 1);
        spoils("w0123;w023;", 1, 1);
        spoils("w0123;w013;", 1, 1);
        spoils("w0123;w012;", 1, 1);
        spoils("w123;w0123;", 1, 1);
        spoils("w012;w0123;", 1, 1);
        spoils("w0123;w132;", 0, NONE);
        spoils("w0123;w012;w01;w0;", 3, 1);
        spoils("w0123;w12;", 0, NONE);
        spoils("w0123;w0;", 0, NONE);
        spoils("w01;w10;", 0, NONE);
        spoils("w01;w02;", 0, NONE);
        spoils("w0;w1;", 0, NONE);
        spoils("w0;w00;w000;w0000;", 3, 1);
        spoils("w01;w0;w1;", 2, 1);
        spoils("w0110;w010;w110;w011;w00;", 4, 1);
    }

    /** "how many; the first, as 10 i and j; none." */
    private static void spoiledFirst() {
        spoils("w1;w2;w21;w11;", 3, 2);
        spoils("w0;w11;w22;w33;w44;w55;w666;w66;", 1, 67);
        spoils("w0;w11;w22;w33;w44;w55;w66;w07;", 1, 7);
        spoils("w7777;w11;w22;w33;w44;w55;w66;w777;", 1, 7);
        spoils("w7;w11;w22;w221;w112;w44;", 2, 14);
        // four words of one sort, and four others that two of them spoil each
        spoils("w0;w1;w2;w3;w01;w12;w23;w30;", 8, 4);
        spoils("w01;w12;w23;w30;w0;w1;w2;w3;", 8, 4);
    }

    /** "SPOILED: how many (what = 0), the first (1; NONE). BAD." */
    private static void spoiledArguments() {
        for (String text : new String[] {"", "w0;w01;"}) {
            Run run = Run.laid(text);
            for (int what : new int[] {-1, 2, 3, MIN, MAX}) run.still("spoiled " + what, BAD);
        }
        Run.laid("w0;w01;").still("spoiled 0", 1).still("spoiled 1", 1);
        // as laid, not as written
        Run.laid("w0;").put("w01;").due("spoiled 0", 0).then("lay").due("spoiled 0", 1);
    }
}
