/** The boundaries that part 1 of the document names, sentence by sentence: THE TEXT, its items, what is laid (promises 1 to 7). */
public final class TextEdgeTest {
    private static final int BAD = Run.BAD, NO = Run.NO, FULL = Run.FULL, NONE = Run.NONE;

    public static void main(String[] args) {
        emptyAtFirst();
        howManyBytesACall();
        threeHundredBytes();
        threeHundredBytesAreRead();
        wiped();
        oneOrTwoFigures();
        partedByCommasAndSemicolons();
        bytesBesideThoseTold();
        oneToFourFigures();
        places();
        noXAheadOfP();
        unlikePlaces();
        delays();
        lastDelayOfEachTwo();
        hours();
        laws();
        words();
        noWordTwice();
        sorts();
        placeOfTheFirstFault();
        layRefused();
        layForgetsAll();
        delayArguments();
        wordArguments();
        fiveHundredAndTwelveCalls();
        Run.end("text edges");
    }

    private static void fault(String text, int due) {
        Run.fresh().put(text).due("fault", due).due("lay", due == NONE ? placesOf(text) : NO);
    }

    /** By the last p, which is all that these texts' places hang on. */
    private static int placesOf(String text) {
        int at = text.lastIndexOf('p');
        return at < 0 ? 2 : Integer.parseInt(text.substring(at + 1, text.indexOf(';', at)));
    }

    private static void good(String... texts) {
        for (String text : texts) fault(text, NONE);
    }

    /** Each is one item: as the first, behind another one, and ahead of another one. */
    private static void bad(String... items) {
        for (String item : items) {
            fault(item, 0);
            fault("h5;" + item, 3);
            fault(item + "h5;", 0);
        }
    }

    private static String times(String item, int n) {
        return item.repeat(n);
    }

    /** "It is minute 0 at first", "2 without", "3 without", "20 without", "0 without", "8 without", "an empty one at first". */
    private static void emptyAtFirst() {
        int[] due = {2, 8, 0, 0, 0, 0, 0, 0, 0, 0};
        Run run = Run.fresh();
        for (int what = 0; what < 10; what++) run.due("count " + what, due[what]);
        run.due("delay 0 1", 3).due("delay 1 0", 3).due("delay 0 0", 0).due("delay 1 1", 0);
        run.due("delay 0 2", BAD).due("delay 2 0", BAD).due("word 0 0", BAD).due("beat 0 0", BAD);
        run.due("fault", NONE).due("undo", NO).due("back", NO).due("stands 0 0 -1", 0).due("stands 0 0 0", NONE);
        run.due("lay", 2);
        Run.fresh().sameAs(Run.laid(""), "a new object is as one whose empty text was laid");
        Run.fresh().then("drum 0 1, pass 19").due("unsay 0 0 0", 1).then("pass 1").due("unsay 0 0 0", 0);
        Run.fresh().then("drum 0 1, drum 0 2, drum 0 1").stands(0, 0, "2");
    }

    /** "n bytes (1 to 8) of v, the highest first, come behind THE TEXT: how long it is. BAD" */
    private static void howManyBytesACall() {
        for (int n : new int[] {0, -1, 9, 10, 16, Run.MIN, Run.MAX, 256 + 1}) {
            Run.fresh().still("write " + n + " 7353403", BAD);
            Run.laid("p3;h5;").still("write " + n + " 7353403", BAD);
        }
        for (int n = 1; n <= 8; n++) {
            Run.fresh().due("write " + n + " -1", n).due("count 9", n).due("write " + n + " 0", 2 * n).due("wipe", 2 * n);
        }
        // "p4;" is 0x70343b; what is above the n bytes does not come, whatever its sign
        Run.fresh().due("write 3 " + 0x70343bL, 3).due("lay", 4);
        Run.fresh().due("write 3 " + 0x7fffffffff70343bL, 3).due("lay", 4);
        Run.fresh().due("write 3 " + 0xffffffffff70343bL, 3).due("lay", 4);
        Run.fresh().due("write 2 " + 0x3b7034L, 2).due("write 1 " + 0x343bL, 3).due("lay", 4);
        // "h5;p3;h6" and ";"
        Run.fresh().due("write 8 " + 0x68353b70333b6836L, 8).due("fault", 6).due("write 1 59", 9).due("lay", 3);
        // a byte of which the highest bit is set is no letter
        Run.fresh().due("write 3 " + 0xf0343bL, 3).due("fault", 0);
        Run.fresh().due("write 8 " + Long.MIN_VALUE, 8).due("fault", 0);
    }

    /** "A TEXT is bytes (300 at most)", "FULL" */
    private static void threeHundredBytes() {
        Run.fresh().put(times("h7;", 99)).due("count 9", 297).still("write 4 0", FULL).due("write 3 " + 0x70353bL, 300)
            .still("write 1 0", FULL).still("write 8 0", FULL).still("write 0 0", BAD).still("write 9 0", BAD)
            .due("fault", NONE).due("lay", 5).due("wipe", 300).due("write 8 0", 8);
        Run.fresh().put(times("h7;", 97) + "h").due("count 9", 292).due("write 8 0", 300).due("write 1 0", FULL);
        Run.fresh().put(times("h7;", 97) + "h7").due("count 9", 293).still("write 8 0", FULL).due("write 7 0", 300);
        Run.fresh().put(times("h7;", 99) + "h7").due("count 9", 299).still("write 2 0", FULL).due("write 1 59", 300)
            .due("fault", NONE);
    }

    private static void threeHundredBytesAreRead() {
        good(times("h7;", 100), times("p3;", 99) + "p4;");
        fault(times("h7;", 99) + "h0;", 297);
        fault(times("h7;", 99) + "h12", 297);
        fault(times("h7;", 99) + "w12", 297);
        fault(times("h7;", 98) + "h12;h7", 298);
        fault(times("h7;", 98) + "h12;w7", 298);
        fault(times("h7;", 97) + "h12;h12;h", 299);
        fault(times("h7;", 97) + "h12;h12;w", 299);
        fault(times("h7;", 97) + "h12;h12;;", 299);
        // the last item of three hundred bytes holds
        Run.fresh().put(times("h7;", 98) + "h7;f3;").due("lay", 2).due("count 1", 3);
        Run.fresh().put(times("h7;", 97) + "x0,1,60;" + "h").due("count 9", 300).due("fault", 299);
        Run.fresh().put(times("h7;", 97) + "x0,01,44;").due("count 9", 300).due("lay", 2).due("delay 1 0", 44);
    }

    /** "THE TEXT is empty: how long it was." */
    private static void wiped() {
        Run.fresh().still("wipe", 0).due("wipe", 0);
        Run.fresh().then("write 1 112").due("wipe", 1).due("wipe", 0).due("fault", NONE).due("count 9", 0);
        Run.fresh().put(times("q", 300)).due("fault", 0).due("wipe", 300).due("fault", NONE).due("lay", 2);
        // what is laid stays till the next lay; what was wiped is not read again
        Run.laid("p5;f3;w01;").due("wipe", 10).due("count 0", 5).due("count 1", 3).due("count 2", 1).due("lay", 2);
        Run.fresh().put("h12;").then("wipe").put("h1").due("fault", 0);
        Run.fresh().put("w7;").then("wipe").put("w").due("fault", 0);
        Run.fresh().put("h12;w").then("wipe").put("h12;").due("fault", NONE);
    }

    /** "numbers (one or two figures)" */
    private static void oneOrTwoFigures() {
        good("p3;", "p03;", "x0,1,5;", "x00,1,5;", "x0,01,5;", "x0,1,05;", "x00,01,05;", "h5;", "h05;", "h50;", "l1;", "l01;",
            "f5;", "f05;");
        bad("p;", "p003;", "p030;", "x,1,5;", "x0,,5;", "x0,1,;", "x000,1,5;", "x0,001,5;", "x0,1,005;", "x0,1,050;", "h;",
            "h005;", "h050;", "l;", "l001;", "f;", "f005;");
        Run.laid("p03;x00,02,09;h05;l01;f04;").due("count 0", 3).due("count 1", 4).due("delay 2 0", 9)
            .then("drum 0 1, drum 0 2, pass 4, drum 0 1").stands(0, 4, "").then("undo, pass 1, drum 0 1").stands(0, 5, "121");
    }

    /** "parted by , and ; (behind the last one, too)" */
    private static void partedByCommasAndSemicolons() {
        for (String item : new String[] {"p2;", "x0,1,5;", "h5;", "l1;", "f5;", "w01;"}) {
            good(item);
            for (int cut = 1; cut < item.length(); cut++) {
                fault(item.substring(0, cut), 0);
                fault("h5;" + item.substring(0, cut), 3);
            }
            fault(item + ";", item.length());
            fault(item + ",", item.length());
            fault(" " + item, 0);
            fault(item + " ", item.length());
        }
        bad(";", ",", "p,3;", "p2,;", "p2,3;", "x0;1;5;", "x0,1;5;", "x0;1,5;", "x0,1,5,;", "x0,1,5,6;", "x0,1;", "x0;", "x;",
            "x,0,1,5;", "h5,;", "h5,6;", "l1,;", "f5,;", "w0,1;", "w01,;", "5;", "05;");
        fault("p2x0,1,5;", 0);
        fault("h5h5;", 0);
    }

    /** "each a letter": of these letters alone, and no other byte beside a figure or a sign. */
    private static void bytesBesideThoseTold() {
        for (char letter = 0; letter < 256; letter++) {
            boolean told = "phlf".indexOf(letter) >= 0;
            fault(letter + "2;", told || letter == 'w' ? NONE : 0);
            fault(letter + "0,1,2;", letter == 'x' ? NONE : 0);
        }
        for (char figure = 0; figure < 256; figure++) {
            boolean isFigure = figure >= '0' && figure <= '9';
            fault("h" + figure + ";", isFigure && figure > '0' ? NONE : 0);
            fault("h1" + figure + ";", isFigure ? NONE : figure == ';' ? 3 : 0);
            fault("x0,1," + figure + ";", isFigure ? NONE : 0);
            fault("w" + figure + ";", isFigure && figure < '8' ? NONE : 0);
            fault("w1" + figure + ";", isFigure && figure < '8' ? NONE : figure == ';' ? 3 : 0);
        }
        for (char sign = 0; sign < 256; sign++) {
            if (sign >= '0' && sign <= '9') continue;
            fault("h5" + sign, sign == ';' ? NONE : 0);
            fault("w5" + sign, sign == ';' ? NONE : 0);
            fault("x0" + sign + "1,5;", sign == ',' ? NONE : 0);
            fault("x0,1" + sign + "5;", sign == ',' ? NONE : 0);
            fault("x0,1,5" + sign, sign == ';' ? NONE : 0);
        }
    }

    /** "S is one to four figures 0 to 7 instead" */
    private static void oneToFourFigures() {
        good("w0;", "w7;", "w00;", "w77;", "w000;", "w777;", "w0000;", "w7777;", "w0707;");
        bad("w;", "w00000;", "w77777;", "w01234;", "w8;", "w9;", "w08;", "w80;", "w8111;", "w1811;", "w1181;", "w1118;", "w11118;");
        Run run = Run.laid("w7;w60;w505;w4044;");
        String[] words = {"7", "60", "505", "4044"};
        for (int w = 0; w < 4; w++) {
            for (int k = 0; k < words[w].length(); k++) run.due("word " + w + " " + k, words[w].charAt(k) - '0');
            run.due("word " + w + " " + words[w].length(), NONE);
        }
    }

    /** "pN there are N PLACES (1 to 5; 2 without" */
    private static void places() {
        bad("p0;", "p00;", "p6;", "p06;", "p7;", "p10;", "p11;", "p15;", "p50;", "p99;");
        for (int n = 1; n <= 5; n++) {
            Run.fresh().put("p" + n + ";").due("fault", NONE).due("count 0", 2).due("lay", n).due("count 0", n)
                .due("drum " + (n - 1) + " 0", 1).still("drum " + n + " 0", BAD);
        }
        Run.laid("h5;l1;f3;").due("count 0", 2);
        Run.laid("p5;p1;").due("count 0", 1);
        Run.laid("p1;p5;").due("count 0", 5);
    }

    /** "no x told ahead of it" */
    private static void noXAheadOfP() {
        fault("x0,1,5;p2;", 7);
        fault("x0,1,5;p3;", 7);
        fault("p3;x0,1,5;p3;", 10);
        fault("x0,1,5;h5;l0;p2;", 13);
        fault("x1,0,0;x0,1,60;p5;", 15);
        good("p3;h5;p4;x3,0,5;", "h5;w0;f3;l1;p3;x2,1,5;x1,2,6;");
        // of two faults the first: a wrong x is the fault, not the p behind it
        fault("x0,0,5;p3;", 0);
        // what another text told is no x ahead
        Run.laid("x0,1,5;").then("wipe").put("p3;").due("fault", NONE).due("lay", 3).due("delay 0 1", 3);
        Run.fresh().put("x0,1,5;").due("fault", NONE).then("wipe").put("p3;").due("fault", NONE);
    }

    /** "xA,B,D what is drummed at A is heard at B (unlike PLACES)" */
    private static void unlikePlaces() {
        for (int n = 1; n <= 5; n++) {
            for (int a = 0; a < 7; a++) {
                for (int b = 0; b < 7; b++) {
                    fault("p" + n + ";x" + a + "," + b + ",5;", a < n && b < n && a != b ? NONE : 3);
                }
            }
        }
        good("x0,1,5;", "x1,0,5;");
        bad("x0,2,5;", "x2,0,5;", "x1,2,5;", "x0,0,5;", "x1,1,5;", "x0,10,5;", "x99,0,5;", "x11,01,5;");
        fault("p5;p2;x0,2,5;", 6);
        fault("p2;p5;x0,4,5;", NONE);
    }

    /** "D minutes later (0 to 60), and the other way round (3 without" */
    private static void delays() {
        bad("x0,1,61;", "x0,1,62;", "x0,1,70;", "x0,1,99;", "x1,0,61;");
        for (int d : new int[] {0, 1, 2, 3, 9, 10, 59, 60}) {
            Run run = Run.laid("p3;x0,2," + d + ";h60;").due("delay 0 2", d).due("delay 2 0", d).due("delay 1 0", 3)
                .due("delay 0 1", 3).due("delay 1 2", 3).due("delay 2 1", 3);
            run.then("pass 7, drum 0 1");
            run.due("stands 2 " + (6 + d) + " -1", 0).due("stands 2 " + (7 + d) + " -1", 1);
            run.due("stands 0 6 -1", 0).due("stands 0 7 -1", 1).due("stands 1 9 -1", 0).due("stands 1 10 -1", 1);
        }
        Run run = Run.laid("p5;");
        for (int a = 0; a < 5; a++) {
            for (int b = 0; b < 5; b++) run.due("delay " + a + " " + b, a == b ? 0 : 3);
        }
    }

    /** "the last one of each two" */
    private static void lastDelayOfEachTwo() {
        Run.laid("x0,1,60;x0,1,0;").due("delay 0 1", 0).due("delay 1 0", 0);
        Run.laid("x0,1,0;x1,0,60;").due("delay 0 1", 60).due("delay 1 0", 60);
        Run.laid("x1,0,7;x0,1,8;").due("delay 0 1", 8).due("delay 1 0", 8);
        Run.laid("p3;x0,1,5;x0,2,6;x2,1,7;x1,0,8;").due("delay 0 1", 8).due("delay 1 0", 8).due("delay 0 2", 6)
            .due("delay 2 0", 6).due("delay 1 2", 7).due("delay 2 1", 7);
        // each two has its own
        StringBuilder text = new StringBuilder("p5;");
        for (int a = 0; a < 5; a++) {
            for (int b = a + 1; b < 5; b++) text.append("x" + a + "," + b + "," + (10 * a + b) + ";");
        }
        Run run = Run.laid(text.toString());
        for (int a = 0; a < 5; a++) {
            for (int b = a + 1; b < 5; b++) run.due("delay " + a + " " + b, 10 * a + b).due("delay " + b + " " + a, 10 * a + b);
        }
    }

    /** "hH an HOUR is H minutes (1 to 60; 20 without; the last one)" */
    private static void hours() {
        bad("h0;", "h00;", "h61;", "h62;", "h70;", "h99;");
        String[] texts = {"h1;", "h2;", "h9;", "h10;", "h59;", "h60;", "", "h60;h1;", "h1;h60;", "h5;h7;h6;"};
        int[] hour = {1, 2, 9, 10, 59, 60, 20, 1, 60, 6};
        for (int i = 0; i < texts.length; i++) {
            Run run = Run.laid(texts[i]).then("drum 0 1");
            if (hour[i] > 1) run.then("pass " + (hour[i] - 1));
            run.due("unsay 0 0 0", 1).due("said 0 " + (hour[i] - 1), 0).due("said 0 " + hour[i], 1);
            run.then("pass 1").due("unsay 0 0 0", 0).then("drum 0 1").due("stands 0 " + hour[i] + " -1", 2);
        }
    }

    /** "lL the LAW: 0 ONE, 1 SINCE, 2 THRICE (0 without; the last one)" */
    private static void laws() {
        bad("l3;", "l03;", "l4;", "l9;", "l10;", "l99;");
        String[] texts = {"", "l0;", "l1;", "l2;", "l00;", "l01;", "l02;", "l2;l0;", "l0;l1;", "l1;l0;l2;"};
        String[] stands = {"2", "2", "", "121", "2", "", "121", "2", "", "121"};
        for (int i = 0; i < texts.length; i++) {
            Run.laid(texts[i]).then("drum 0 1, drum 0 2, drum 0 1").stands(0, 0, stands[i]);
        }
    }

    /** "wS a WORD is the row of SORTS S (8 at most, 0, 1, ..;" */
    private static void words() {
        String eight = "w7;w6;w5;w4;w3;w2;w1;w0;";
        Run run = Run.laid(eight).due("count 2", 8);
        for (int w = 0; w < 8; w++) run.due("word " + w + " 0", 7 - w).due("word " + w + " 1", NONE);
        run.due("word 8 0", BAD).due("word -1 0", BAD);
        good(eight, eight + "h5;", "h5;" + eight);
        fault(eight + "w00;", 24);
        fault(eight + "w7;", 24);
        fault(eight + "h5;w0000;", 27);
        fault("w7777;w7776;w7775;w7774;w7773;w7772;w7771;w7770;w1;", 48);
        for (int n = 0; n <= 8; n++) Run.laid(eight.substring(0, 3 * n)).due("count 2", n).due("word " + n + " 0", BAD);
        // S is of the figures 0 to 7, however many SORTS there are
        Run.laid("f2;w7;").due("word 0 0", 7);
        Run.laid("w7;f2;").due("word 0 0", 7).due("count 1", 2);
    }

    /** "none twice)" */
    private static void noWordTwice() {
        fault("w0;w0;", 3);
        fault("w7777;w7777;", 6);
        fault("w01;w10;w0;w1;w01;", 14);
        fault("w0;w1;w2;w3;w4;w5;w6;w6;", 21);
        fault("w0;w1;w2;w3;w4;w5;w6;w0;", 21);
        fault("w0;h5;w0;", 6);
        good("w0;w00;w000;w0000;", "w0000;w000;w00;w0;", "w01;w10;", "w123;w124;w223;", "w1234;w123;w234;w12;w34;w23;");
        // a word of another text is none of this one
        Run.laid("w01;").then("wipe").put("w01;").due("fault", NONE).due("lay", 2).due("count 2", 1);
        Run.laid("w01;").due("fault", NONE).due("fault", NONE).due("lay", 2).due("count 2", 1);
    }

    /** "fF the SORTS are 0 to F less 1 (2 to 8; 8 without; the last one)" */
    private static void sorts() {
        bad("f0;", "f1;", "f01;", "f9;", "f09;", "f10;", "f18;", "f80;", "f99;");
        for (int f = 2; f <= 8; f++) {
            Run.laid("f" + f + ";").due("count 1", f).due("drum 0 " + (f - 1), 1).still("drum 0 " + f, BAD).still("drum 0 -1", BAD)
                .due("add " + (f - 1), 1).still("add " + f, BAD).still("add -1", BAD)
                .due("chance 0 " + (f - 1) + " 0 0", 1).still("chance 0 " + f + " 0 0", BAD);
        }
        Run.laid("").due("count 1", 8);
        Run.laid("f8;f2;").due("count 1", 2);
        Run.laid("f2;f8;").due("count 1", 8);
        Run.laid("f2;f8;f5;").due("count 1", 5);
    }

    /** "FAULT: the place of the first byte of the first ITEM that is not so." "FAULT. NONE." */
    private static void placeOfTheFirstFault() {
        fault("", NONE);
        fault("h0;l3;", 0);
        fault("h5;l3;h0;", 3);
        fault("h5;h50;l3;", 7);
        fault("h5;x0,1,5;w0123;f9;", 16);
        fault("h5;x0,1,61;w0123;f9;", 3);
        fault("q", 0);
        fault("h", 0);
        fault("h5;h5;q", 6);
        Run.fresh().put("h0;").still("fault", 0).put("h5;").due("fault", 0).then("wipe").put("h5;").still("fault", NONE);
    }

    /** "LAID is a TEXT without FAULT (NO else". "NO." of lay: nothing changes then. */
    private static void layRefused() {
        Run.fresh().put("q").still("lay", NO).due("count 0", 2);
        Run.fresh().put("p5;h0;").still("lay", NO).due("count 0", 2).due("delay 0 4", BAD);
        for (String end : new String[] {"p4;", "x0,1,61;", "h0;", "l3;", "w12;", "f9;", "w", ";"}) {
            Run run = busy().put(end).still("lay", NO).due("count 0", 3).due("count 1", 5).due("count 2", 2).due("delay 0 1", 9);
            run.due("count 3", 3).due("count 4", 6).due("count 5", 2).due("count 6", 2).due("count 7", 5).due("count 8", 1);
        }
        // what stands ahead of the fault is not laid, either
        busy().then("wipe").put("p5;f8;w7;x0,1,1;h60;l0;q").still("lay", NO).due("count 0", 3).due("delay 0 1", 9);
    }

    private static Run busy() {
        return Run.laid("p3;x0,1,9;h5;l1;f5;w12;w34;").then("drum 0 1, pass 2, drum 1 2, pass 4, drum 2 3").row("32")
            .then("tell 0, tell 2, keep");
    }

    /** "LAID: how many PLACES; minute 0, no BEATS, no told row, nothing told of SECRETS, UNDONE, KEPT." */
    private static void layForgetsAll() {
        for (String text : new String[] {"", "p1;", "p5;x0,4,60;h60;f2;l2;w0;w1;w01;"}) {
            busy().then("wipe").put(text).then("lay").sameAs(Run.fresh().put(text).then("lay"), "all anew by " + text);
        }
        // each by itself
        String[] steps = {"pass 9", "drum 1 7", "add 3", "tell 1", "keep", "pass 600, undo", "keep, back"};
        for (String step : steps) Run.fresh().then(step).then("lay").sameAs(Run.fresh(), "all anew behind " + step);
        busy().due("lay", 3).due("count 9", 27).due("lay", 3).due("undo", NO).due("back", NO).due("forget", 0).due("noRow", 0);
        // there is room again
        Run run = Run.fresh();
        for (int i = 0; i < 24; i++) run.then("drum 0 " + i % 8);
        run.due("drum 0 0", FULL).due("lay", 2).due("drum 0 0", 1);
    }

    /** "In how many minutes what is drummed at a is heard at b. BAD." */
    private static void delayArguments() {
        for (int n = 1; n <= 5; n++) {
            Run run = Run.laid("p" + n + ";").due("delay " + (n - 1) + " " + (n - 1), 0);
            for (int no : new int[] {-1, n, n + 1, 5, 6, Run.MIN, Run.MAX}) {
                if (no < n && no >= 0) continue;
                run.due("delay 0 " + no, BAD).due("delay " + no + " 0", BAD).due("delay " + no + " " + no, BAD);
            }
            run.still("delay 0 " + n, BAD);
        }
    }

    /** "Of a WORD its k-th SORT. NONE: not so many; BAD (k below 0)." */
    private static void wordArguments() {
        Run run = Run.laid("w5;w0123;").due("word 0 0", 5).still("word 0 1", NONE).due("word 1 3", 3).still("word 1 4", NONE);
        run.due("word 1 5", NONE).due("word 1 " + Run.MAX, NONE).due("word 0 " + Run.MAX, NONE);
        run.still("word 0 -1", BAD).due("word 1 -1", BAD).due("word 1 " + Run.MIN, BAD);
        run.still("word 2 0", BAD).still("word -1 0", BAD).due("word 8 0", BAD).due("word " + Run.MIN + " 0", BAD)
            .due("word " + Run.MAX + " 0", BAD);
        run.due("word 2 9", BAD).due("word 2 -1", BAD).due("word -1 9", BAD);
        // words are as laid, not as written
        run.then("wipe").put("w7;").due("word 1 3", 3).then("lay").due("word 0 0", 7).due("word 1 0", BAD).due("word 0 1", NONE);
    }

    /** "An object is used for at most 512 calls after it has been made": the last of them is answered as the first. */
    private static void fiveHundredAndTwelveCalls() {
        Run run = Run.fresh();
        for (int i = 0; i < 100; i++) run.due("keep", 1).due("drum 1 7", 1).due("pass 600", 600).due("undo", 1).due("back", 0);
        run.put("p5;x0,4,60;").due("write 1 59", 12).due("fault", 11).due("wipe", 12).put("p5;").due("lay", 5).due("drum 4 7", 1);
        run.due("pass 600", 600).due("stands 0 3 0", 7).due("stands 0 3 1", Run.NONE).due("beat 0 0", 4);
    }
}
