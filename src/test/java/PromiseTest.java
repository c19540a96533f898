/** One method a promise: ordinary inputs, the edges that the document names, and wrong inputs. */
public final class PromiseTest {
    private static final int BAD = -1, NO = -2, FULL = -3, NONE = -4;
    private static final int MIN = Integer.MIN_VALUE, MAX = Integer.MAX_VALUE;
    private static int wrong = 0;
    private static int checks = 0;

    private static void due(String what, int got, int want) {
        checks++;
        if (got != want) {
            wrong++;
            System.out.println(what + " answered " + got + ", due is " + want);
        }
    }

    public static void main(String[] args) {
        newObject();
        write();
        wipe();
        fault();
        faultOfWords();
        lay();
        layForgets();
        delay();
        word();
        drum();
        pass();
        undo();
        beat();
        standsByOne();
        standsBySince();
        standsByThrice();
        standsByHearing();
        standsWrong();
        said();
        meaning();
        unsay();
        unsayByThrice();
        open();
        add();
        noRow();
        takes();
        mends();
        spoiled();
        tell();
        forget();
        secret();
        secretBehindItsMinute();
        secretAmongThoseOnTheirWay();
        chance();
        day();
        keepAndBack();
        count();
        System.out.println(checks + " answers looked at, " + wrong + " not as due");
        if (wrong != 0) System.exit(1);
    }

    private static void put(UnsayingDrums x, String text) {
        for (int i = 0; i < text.length(); i++) {
            x.write(1, text.charAt(i));
        }
    }

    private static UnsayingDrums laid(String text) {
        UnsayingDrums x = new UnsayingDrums();
        put(x, text);
        due("lay of " + text, x.fault(), NONE);
        x.lay();
        return x;
    }

    private static int faultOf(String text) {
        UnsayingDrums x = new UnsayingDrums();
        put(x, text);
        return x.fault();
    }

    private static void row(UnsayingDrums x, String sorts) {
        x.noRow();
        for (int i = 0; i < sorts.length(); i++) {
            x.add(sorts.charAt(i) - '0');
        }
    }

    private static void standsAs(UnsayingDrums x, int p, int t, String sorts) {
        String what = "stands at " + p + ", " + t + " (" + sorts + ")";
        due(what, x.stands(p, t, -1), sorts.length());
        for (int k = 0; k < sorts.length(); k++) {
            due(what + " " + k, x.stands(p, t, k), sorts.charAt(k) - '0');
        }
        due(what + " behind the last", x.stands(p, t, sorts.length()), NONE);
        due(what + " far behind", x.stands(p, t, MAX), NONE);
    }

    private static void newObject() {
        UnsayingDrums x = new UnsayingDrums();
        int[] due = {2, 8, 0, 0, 0, 0, 0, 0, 0, 0};
        for (int what = 0; what < 10; what++) {
            due("new count " + what, x.count(what), due[what]);
        }
        due("new delay", x.delay(1, 0), 3);
        due("new fault", x.fault(), NONE);
        // hour 20 and the law ONE without being told
        x.drum(0, 1);
        x.drum(0, 2);
        x.pass(19);
        x.drum(0, 1);
        standsAs(x, 0, 19, "2");
        x.pass(1);
        x.drum(0, 2);
        standsAs(x, 0, 20, "22");
        due("BAD", UnsayingDrums.BAD, BAD);
        due("NO", UnsayingDrums.NO, NO);
        due("FULL", UnsayingDrums.FULL, FULL);
        due("NONE", UnsayingDrums.NONE, NONE);
    }

    private static void write() {
        UnsayingDrums x = new UnsayingDrums();
        due("write 0", x.write(0, 'p'), BAD);
        due("write 9", x.write(9, 'p'), BAD);
        due("write MIN", x.write(MIN, 0), BAD);
        due("write MAX", x.write(MAX, 0), BAD);
        // the low bytes, the highest of them first; what is above them does not come
        due("write p4;", x.write(3, 0x7777777777000000L | 'p' << 16 | '4' << 8 | ';'), 3);
        due("lay of it", x.lay(), 4);
        due("wipe", x.wipe(), 3);
        due("write 8", x.write(8, 0x70353b70343b6838L), 8);
        due("write 1", x.write(1, ';'), 9);
        due("lay of p5;p4;h8;", x.lay(), 4);
        x.wipe();
        for (int n = 8; n <= 296; n += 8) {
            due("write to " + n, x.write(8, -1L), n);
        }
        due("write beyond 300", x.write(5, 0), FULL);
        due("length then", x.count(9), 296);
        due("BAD ahead of FULL", x.write(9, 0), BAD);
        due("write to 300", x.write(4, 0), 300);
        due("write to 301", x.write(1, 0), FULL);
        due("fault of bytes 255", x.fault(), 0);
    }

    private static void wipe() {
        UnsayingDrums x = new UnsayingDrums();
        due("wipe of nothing", x.wipe(), 0);
        put(x, "p3;x");
        due("wipe", x.wipe(), 4);
        due("wipe again", x.wipe(), 0);
        due("fault then", x.fault(), NONE);
        put(x, "p3;");
        x.lay();
        x.wipe();
        due("what is laid stays", x.count(0), 3);
        // what was wiped is not read behind what is written next
        String[] whole = {"h12;", "h5;", "x0,1,4;", "w7;", "p3;h9;"};
        String[] cut = {"h1", "h5", "x0,1,", "w", "p3;h"};
        for (int i = 0; i < whole.length; i++) {
            x.wipe();
            put(x, whole[i]);
            x.wipe();
            put(x, cut[i]);
            due("fault of " + cut[i] + " where " + whole[i] + " was", x.fault(), i == 4 ? 3 : 0);
        }
    }

    private static void fault() {
        String[] good = {"", "p1;", "p5;", "p05;", "p3;p2;", "x0,1,0;", "x1,0,60;", "x00,01,07;", "x0,1,1;x1,0,2;", "h1;", "h60;",
            "h9;h8;", "l0;", "l1;", "l2;", "l02;", "f2;", "f8;", "f3;f2;", "w0;", "w7777;", "w0;w00;w000;w0000;w1;w2;w3;w4;",
            "f2;w7;", "h5;p5;x4,3,9;", "p1;h3;p2;x0,1,1;"};
        for (String text : good) {
            due("fault of " + text, faultOf(text), NONE);
        }
        String[] bad = {"p", "p1", ";", "p;", "p0;", "p6;", "p00;", "p001;", "p1,2;", "p-1;", "p 1;", "P1;", "q1;", "x;", "x0;",
            "x0,1;", "x0,1,1,1;", "x0,1,1", "x0,1,61;", "x0,0,1;", "x0,2,1;", "x2,0,1;", "x,1,1;", "x0,,1;", "x0,1,;", "x0;1;1;",
            "x0,1,100;", "h;", "h0;", "h61;", "h060;", "h99;", "l3;", "l;", "f0;", "f1;", "f9;", "f;", "w;", "w8;", "w9;", "w08;",
            "w01234;", "w0,1;", "w0", "w", "0;", "h5,", "h5:", "h:;", "h5:;", "h/;", "h5/;", "x0,1,:;",
            "w:;", "w/;", "\u00f0" + "1;", "\u0000"};
        for (String text : bad) {
            due("fault of " + text, faultOf(text), 0);
            due("fault of p2; and " + text, faultOf("p2;" + text), 3);
            due("fault of " + text + " and q", faultOf(text + "q"), 0);
        }
        due("no x ahead of p", faultOf("x0,1,1;p3;"), 7);
        due("p1 has no two places", faultOf("p1;x0,1,1;"), 3);
        due("places as told so far", faultOf("p3;p2;x0,2,1;"), 6);
        due("the first of two faults", faultOf("h5;l3;h0;"), 3);
    }

    private static void faultOfWords() {
        due("no word twice", faultOf("w01;w10;w01;"), 8);
        due("words that begin alike", faultOf("w01;w0;w010;w011;"), NONE);
        due("eight words", faultOf("w0;w1;w2;w3;w4;w5;w6;w7;"), NONE);
        due("the ninth word", faultOf("w0;w1;w2;w3;w4;w5;w6;w7;h3;w00;"), 27);
        StringBuilder full = new StringBuilder();
        for (int i = 0; i < 100; i++) {
            full.append("h7;");
        }
        due("three hundred bytes", faultOf(full.toString()), NONE);
        // three hundred that end within an item: nothing is behind them
        String most = full.substring(0, 291);
        String[] ends = {"h7;h7;h12", "h7;h7;w12", "h7;h7;p1,", "h12;h7;h1", "h12;h7;x0", "h12;h12;h", "h12;h12;w"};
        int[] due = {297, 297, 297, 298, 298, 299, 299};
        for (int i = 0; i < ends.length; i++) {
            due("fault at the end in " + ends[i], faultOf(most + ends[i]), due[i]);
        }
    }

    private static void lay() {
        UnsayingDrums x = new UnsayingDrums();
        due("lay of nothing", x.lay(), 2);
        put(x, "p4;f3;w12;");
        due("not laid yet: places", x.count(0), 2);
        due("lay", x.lay(), 4);
        due("sorts", x.count(1), 3);
        due("words", x.count(2), 1);
        due("THE TEXT stays", x.count(9), 10);
        x.drum(3, 2);
        x.pass(7);
        x.add(1);
        x.tell(2);
        x.keep();
        put(x, "p");
        due("lay of a fault", x.lay(), NO);
        int[] due = {4, 3, 1, 1, 7, 1, 1, 2, 1, 11};
        for (int what = 0; what < 10; what++) {
            due("nothing changes then: " + what, x.count(what), due[what]);
        }
        due("nor the delays", x.delay(3, 0), 3);
    }

    private static void layForgets() {
        UnsayingDrums x = laid("p4;x0,3,9;h5;l2;f3;w12;");
        x.drum(3, 2);
        x.pass(7);
        x.add(1);
        x.tell(2);
        x.keep();
        x.wipe();
        due("lay of the empty text", x.lay(), 2);
        int[] due = {2, 8, 0, 0, 0, 0, 0, 0, 0, 0};
        for (int what = 0; what < 10; what++) {
            due("forgotten: " + what, x.count(what), due[what]);
        }
        due("no step to undo", x.undo(), NO);
        due("none kept", x.back(), NO);
        put(x, "p4;");
        x.lay();
        due("delays as without", x.delay(0, 3), 3);
        x.drum(0, 0);
        x.drum(0, 0);
        standsAs(x, 0, 0, "");
    }

    private static void delay() {
        UnsayingDrums x = laid("p5;x0,4,60;x4,0,59;x1,3,0;x2,1,7;");
        due("the last one of each two", x.delay(0, 4), 59);
        due("the other way round", x.delay(4, 0), 59);
        due("none", x.delay(3, 1), 0);
        due("told", x.delay(1, 2), 7);
        due("without", x.delay(2, 3), 3);
        due("its own", x.delay(4, 4), 0);
        due("no place 5", x.delay(5, 0), BAD);
        due("no place -1", x.delay(0, -1), BAD);
        due("no place MAX", x.delay(MAX, MIN), BAD);
        due("one place", laid("p1;").delay(0, 1), BAD);
        due("one place, its own", laid("p1;").delay(0, 0), 0);
    }

    private static void word() {
        UnsayingDrums x = laid("w7;w0123;w30;");
        due("word 0, 0", x.word(0, 0), 7);
        due("word 0, 1", x.word(0, 1), NONE);
        for (int k = 0; k < 4; k++) {
            due("word 1, " + k, x.word(1, k), k);
        }
        due("word 1, 4", x.word(1, 4), NONE);
        due("word 2, 0", x.word(2, 0), 3);
        due("word 2, MAX", x.word(2, MAX), NONE);
        due("word 3", x.word(3, 0), BAD);
        due("word 3, far", x.word(3, 9), BAD);
        due("word -1", x.word(-1, 0), BAD);
        due("word 1, -1", x.word(1, -1), BAD);
        due("word 1, MIN", x.word(1, MIN), BAD);
        x.wipe();
        put(x, "w5;");
        due("as laid", x.word(1, 3), 3);
        x.lay();
        due("laid anew", x.word(0, 0), 5);
        due("laid anew, 1", x.word(1, 0), BAD);
    }

    private static void drum() {
        UnsayingDrums x = laid("p3;f4;");
        due("place 3", x.drum(3, 0), BAD);
        due("place -1", x.drum(-1, 0), BAD);
        due("sort 4", x.drum(0, 4), BAD);
        due("sort -1", x.drum(0, -1), BAD);
        due("far off", x.drum(MAX, MIN), BAD);
        due("none drummed", x.count(3), 0);
        for (int n = 1; n <= 24; n++) {
            due("drum " + n, x.drum(n % 3, n % 4), n);
        }
        due("drum 25", x.drum(0, 0), FULL);
        due("BAD ahead of FULL", x.drum(0, 4), BAD);
        due("24", x.count(3), 24);
        due("can be undone", x.undo(), 7);
        due("then there is room", x.drum(2, 3), 24);
    }

    private static void pass() {
        UnsayingDrums x = new UnsayingDrums();
        due("pass 0", x.pass(0), BAD);
        due("pass -1", x.pass(-1), BAD);
        due("pass 601", x.pass(601), BAD);
        due("pass MAX", x.pass(MAX), BAD);
        due("pass MIN", x.pass(MIN), BAD);
        for (int n = 1; n <= 16; n++) {
            due("pass 600", x.pass(600), 600 * n);
        }
        due("pass above 9999", x.pass(400), NO);
        due("BAD ahead of NO", x.pass(601), BAD);
        due("pass to 9999", x.pass(399), 9999);
        due("pass 1", x.pass(1), NO);
        due("minute", x.count(4), 9999);
        x.drum(0, 0);
        due("heard at its own place", x.stands(0, 9999, -1), 1);
        due("heard elsewhere beyond", x.stands(1, 9999, -1), 0);
    }

    private static void undo() {
        UnsayingDrums x = new UnsayingDrums();
        due("nothing to undo", x.undo(), NO);
        x.drum(0, 3);
        x.pass(4);
        x.drum(1, 5);
        x.pass(600);
        due("can be", x.count(7), 4);
        due("undo of pass", x.undo(), 3);
        due("minute 4", x.count(4), 4);
        due("undo of drum", x.undo(), 2);
        due("one beat", x.count(3), 1);
        due("its sort", x.beat(0, 1), 3);
        due("undo of pass", x.undo(), 1);
        due("undo of drum", x.undo(), 0);
        due("no beat", x.count(3), 0);
        due("minute 0", x.count(4), 0);
        due("no more", x.undo(), NO);
        x.drum(1, 5);
        x.pass(1);
        due("undo of one minute", x.undo(), 1);
        due("the beat is there yet", x.count(3), 1);
        due("undo of it", x.undo(), 0);
        for (int n = 1; n <= 9; n++) {
            x.pass(n);
        }
        due("the last eight", x.count(7), 8);
        x.pass(0);
        x.drum(0, 8);
        due("what was refused is no step", x.count(7), 8);
        for (int left = 7; left >= 0; left--) {
            due("undo", x.undo(), left);
        }
        due("the ninth", x.undo(), NO);
        due("minute 1", x.count(4), 1);
    }

    private static void beat() {
        UnsayingDrums x = laid("p3;");
        due("none", x.beat(0, 0), BAD);
        x.drum(2, 7);
        x.pass(11);
        x.drum(1, 4);
        int[][] due = {{2, 7, 0}, {1, 4, 11}};
        for (int i = 0; i < 2; i++) {
            for (int what = 0; what < 3; what++) {
                due("beat " + i + ", " + what, x.beat(i, what), due[i][what]);
            }
            due("beat what 3", x.beat(i, 3), BAD);
            due("beat what -1", x.beat(i, -1), BAD);
        }
        due("beat 2", x.beat(2, 0), BAD);
        due("beat -1", x.beat(-1, 0), BAD);
        due("beat MIN", x.beat(MIN, MAX), BAD);
        // one that was unsaid is still a beat that was drummed
        x.drum(1, 4);
        due("beats", x.count(3), 3);
    }

    private static void standsByOne() {
        UnsayingDrums x = laid("h5;");
        x.drum(0, 1);
        x.drum(0, 2);
        x.drum(0, 3);
        x.pass(4);
        x.drum(0, 1);
        standsAs(x, 0, 3, "123");
        standsAs(x, 0, 4, "23");
        x.pass(1);
        x.drum(0, 2);
        standsAs(x, 0, 5, "232");
        x.drum(0, 2);
        standsAs(x, 0, 5, "23");
        // the latest goes, even if an earlier one of its sort stands
        x.drum(0, 4);
        x.drum(0, 2);
        standsAs(x, 0, 5, "2342");
        x.drum(0, 2);
        standsAs(x, 0, 5, "234");
        // the earlier one stands yet, but an hour has gone by
        x.drum(0, 2);
        standsAs(x, 0, 5, "2342");
    }

    private static void standsBySince() {
        UnsayingDrums x = laid("h5;l1;");
        x.drum(0, 1);
        x.drum(0, 2);
        x.drum(0, 3);
        x.drum(0, 2);
        standsAs(x, 0, 0, "1");
        x.drum(0, 4);
        x.drum(0, 1);
        standsAs(x, 0, 0, "");
        x.drum(0, 5);
        x.pass(5);
        x.drum(0, 6);
        x.drum(0, 5);
        standsAs(x, 0, 5, "565");
        x.drum(0, 6);
        standsAs(x, 0, 5, "5");
    }

    private static void standsByThrice() {
        UnsayingDrums x = laid("h5;l2;");
        x.drum(0, 1);
        x.drum(0, 2);
        x.drum(0, 1);
        x.drum(0, 3);
        standsAs(x, 0, 0, "1213");
        x.pass(1);
        x.drum(0, 1);
        standsAs(x, 0, 1, "123");
        x.drum(0, 1);
        standsAs(x, 0, 1, "1231");
        // at minute 5 the first is an hour behind: only one such stands
        x.pass(4);
        x.drum(0, 1);
        standsAs(x, 0, 5, "12311");
        x.drum(0, 1);
        standsAs(x, 0, 5, "1231");
    }

    private static void standsByHearing() {
        UnsayingDrums x = laid("p3;x0,1,2;x1,2,0;x0,2,5;");
        x.drum(0, 1);
        x.pass(2);
        x.drum(1, 2);
        x.drum(2, 3);
        standsAs(x, 0, 0, "1");
        standsAs(x, 1, 1, "");
        // of one minute: as drummed, not as heard at home
        standsAs(x, 1, 2, "123");
        standsAs(x, 2, 2, "23");
        standsAs(x, 2, 4, "23");
        standsAs(x, 2, 5, "231");
        standsAs(x, 0, 3, "1");
        standsAs(x, 0, 4, "12");
        standsAs(x, 0, 7, "123");
        standsAs(x, 0, 9999, "123");
        // a beat on its way is unsaid where the other is heard first
        x.drum(2, 1);
        standsAs(x, 2, 4, "231");
        standsAs(x, 2, 5, "23");
        standsAs(x, 1, 2, "23");
        standsAs(x, 0, 6, "12");
        standsAs(x, 0, 7, "23");
    }

    private static void standsWrong() {
        UnsayingDrums x = new UnsayingDrums();
        x.drum(0, 6);
        due("place 2", x.stands(2, 0, 0), BAD);
        due("place -1", x.stands(-1, 0, 0), BAD);
        due("minute -1", x.stands(0, -1, 0), BAD);
        due("minute 10000", x.stands(0, 10000, 0), BAD);
        due("minute MIN", x.stands(0, MIN, 0), BAD);
        due("k -2", x.stands(0, 0, -2), BAD);
        due("k MIN", x.stands(0, 0, MIN), BAD);
        due("k 1", x.stands(0, 0, 1), NONE);
        due("BAD ahead of NONE", x.stands(2, 0, 1), BAD);
    }

    private static void said() {
        UnsayingDrums x = laid("p2;x0,1,7;h10;");
        x.drum(0, 1);
        x.pass(1);
        x.drum(0, 2);
        due("said at 9", x.said(0, 9), 0);
        due("said at 10", x.said(0, 10), 1);
        due("said at 11", x.said(0, 11), 2);
        due("heard elsewhere later: 16", x.said(1, 16), 0);
        due("heard elsewhere later: 17", x.said(1, 17), 1);
        due("heard elsewhere later: 18", x.said(1, 18), 2);
        x.pass(9);
        x.drum(0, 2);
        due("unsaid in time", x.said(0, 11), 1);
        x.drum(0, 1);
        due("said for good", x.said(0, 9999), 2);
        due("place 2", x.said(2, 0), BAD);
        due("place -1", x.said(-1, 0), BAD);
        due("minute -1", x.said(0, -1), BAD);
        due("minute 10000", x.said(0, 10000), BAD);
    }

    private static void meaning() {
        UnsayingDrums x = laid("h1;w1;w12;w123;w24;w4;");
        String drummed = "1241230124";
        for (int i = 0; i < drummed.length(); i++) {
            x.drum(0, drummed.charAt(i) - '0');
            x.pass(1);
        }
        // 12 4 123 (0) 12 4: the longest from the left, what is no word is left out
        int[] due = {1, 4, 2, 1, 4};
        for (int i = 0; i < due.length; i++) {
            due("meaning " + i, x.meaning(0, 10, i), due[i]);
        }
        due("meaning 5", x.meaning(0, 10, 5), NONE);
        due("meaning MAX", x.meaning(0, 10, MAX), NONE);
        due("only what is said: 1", x.meaning(0, 1, 0), 0);
        due("only what is said: 12", x.meaning(0, 2, 0), 1);
        due("nothing said", x.meaning(0, 0, 0), NONE);
        due("1241 at 4", x.meaning(0, 4, 2), 0);
        due("124123 at 6", x.meaning(0, 6, 2), 2);
        due("i -1", x.meaning(0, 10, -1), BAD);
        due("i MIN", x.meaning(0, 10, MIN), BAD);
        due("place 2", x.meaning(2, 10, 0), BAD);
        due("minute -1", x.meaning(0, -1, 0), BAD);
        due("minute 10000", x.meaning(0, 10000, 0), BAD);
        UnsayingDrums y = laid("h1;w21;w2130;w213;w2;");
        for (int s : new int[] {2, 1, 3, 0, 2, 1, 3, 3, 2, 2, 1}) {
            y.drum(1, s);
            y.pass(1);
        }
        int[] longest = {1, 2, 3, 0, NONE};
        for (int i = 0; i < longest.length; i++) {
            due("the longest, not the first or last: " + i, y.meaning(1, 11, i), longest[i]);
        }
        UnsayingDrums none = new UnsayingDrums();
        none.drum(0, 0);
        due("no book", none.meaning(0, 9999, 0), NONE);
    }

    private static void unsay() {
        UnsayingDrums x = laid("p3;x0,1,4;x0,2,5;x1,2,9;h5;");
        x.drum(0, 1);
        due("at once", x.unsay(0, 0, 0), 1);
        due("4 minutes later", x.unsay(0, 0, 1), 1);
        due("an hour later", x.unsay(0, 0, 2), 0);
        due("not heard yet", x.unsay(1, 0, 1), NONE);
        x.pass(1);
        due("an hour later, from 1", x.unsay(0, 0, 1), 0);
        // one on its way unsays it at minute 4, ahead of the beat from 1
        UnsayingDrums y = laid("p3;x0,1,3;x0,2,4;h9;");
        y.drum(1, 1);
        y.pass(2);
        y.drum(0, 1);
        due("at once", y.unsay(0, 0, 0), 1);
        due("gone when it is heard", y.unsay(0, 0, 1), 0);
        due("gone when it is heard, from 2", y.unsay(0, 0, 2), 0);
        // one on its way comes behind it: the latest goes, not the one asked
        UnsayingDrums z = laid("p2;x0,1,5;h5;");
        z.drum(1, 1);
        z.drum(0, 1);
        z.pass(4);
        due("stands at 0", z.stands(0, 4, -1), 1);
        due("at once", z.unsay(0, 0, 0), 1);
        due("behind another", z.unsay(0, 0, 1), 0);
        due("place 2", z.unsay(2, 0, 0), BAD);
        due("place -1", z.unsay(-1, 0, 0), BAD);
        due("by place 2", z.unsay(0, 0, 2), BAD);
        due("by place -1", z.unsay(0, 0, -1), BAD);
        due("k -1", z.unsay(0, -1, 0), BAD);
        due("k MIN", z.unsay(0, MIN, 0), BAD);
        due("k 1", z.unsay(0, 1, 0), NONE);
        due("BAD ahead of NONE", z.unsay(0, 1, 2), BAD);
    }

    private static void unsayByThrice() {
        UnsayingDrums x = laid("l2;h9;x0,1,9;");
        x.drum(0, 1);
        due("one does not", x.unsay(0, 0, 0), 0);
        x.drum(0, 2);
        x.drum(0, 1);
        due("the first stays", x.unsay(0, 0, 0), 0);
        due("another sort stays", x.unsay(0, 1, 0), 0);
        due("the latest goes", x.unsay(0, 2, 0), 1);
        due("not an hour later", x.unsay(0, 2, 1), 0);
        due("open", x.open(0), 1);
        UnsayingDrums since = laid("l1;");
        since.drum(0, 1);
        since.drum(0, 2);
        due("by SINCE the first", since.unsay(0, 0, 0), 1);
        due("by SINCE the second", since.unsay(0, 1, 0), 1);
        due("all as before", since.stands(0, 0, -1), 2);
        due("no beat more", since.count(3), 2);
    }

    private static void open() {
        UnsayingDrums x = laid("h5;x0,1,2;");
        due("none stand", x.open(0), 0);
        x.drum(0, 1);
        x.pass(3);
        x.drum(0, 2);
        due("both", x.open(0), 2);
        due("at 1", x.open(1), 1);
        x.pass(1);
        due("both yet", x.open(0), 2);
        x.pass(1);
        due("the first is said", x.open(0), 1);
        due("at 1 both", x.open(1), 2);
        x.pass(3);
        due("all said", x.open(0), 0);
        due("place 2", x.open(2), BAD);
        due("place -1", x.open(-1), BAD);
        // only from elsewhere: by THRICE a second one is on its way
        UnsayingDrums y = laid("l2;x0,1,2;h9;");
        y.drum(0, 1);
        y.drum(0, 1);
        y.drum(1, 1);
        due("two stand", y.stands(0, 0, -1), 2);
        due("the latest now, the first never", y.open(0), 1);
        due("the latest is gone then", y.unsay(0, 1, 1), 0);
        due("one such stands then", y.unsay(0, 0, 1), 0);
    }

    private static void add() {
        UnsayingDrums x = laid("f3;");
        due("sort 3", x.add(3), BAD);
        due("sort -1", x.add(-1), BAD);
        for (int n = 1; n <= 8; n++) {
            due("add " + n, x.add(n % 3), n);
        }
        due("add 9", x.add(0), FULL);
        due("BAD ahead of FULL", x.add(3), BAD);
        due("eight", x.count(5), 8);
    }

    private static void noRow() {
        UnsayingDrums x = new UnsayingDrums();
        due("none", x.noRow(), 0);
        row(x, "127");
        due("three", x.noRow(), 3);
        due("none then", x.count(5), 0);
        due("add", x.add(5), 1);
    }

    private static void takes() {
        UnsayingDrums x = laid("p2;x0,1,3;h10;");
        due("no row", x.takes(0), 0);
        row(x, "1");
        due("one", x.takes(0), 0);
        row(x, "12");
        due("a minute behind the one ahead", x.takes(0), 1);
        row(x, "11");
        due("an hour behind its like", x.takes(0), 10);
        row(x, "1212");
        due("1 at 0, 2 at 1, 1 at 10, 2 at 11", x.takes(0), 11);
        row(x, "11111111");
        due("eight", x.takes(1), 70);
        x.drum(0, 1);
        row(x, "1");
        due("an hour behind what stands", x.takes(0), 10);
        due("elsewhere it is not there yet", x.takes(1), 0);
        row(x, "21");
        // 2 at 0, then 1 at 1: the beat on its way (at 3) unsays it later
        due("elsewhere 1", x.takes(1), 1);
        row(x, "211");
        due("at 3 it goes, and at 3 it comes", x.takes(1), 3);
        x.pass(3);
        row(x, "1");
        due("it stands there", x.takes(1), 10);
        x.pass(6);
        due("some of the hour has gone by", x.takes(0), 1);
        due("no beat more", x.count(3), 1);
        due("place 2", x.takes(2), BAD);
        due("place -1", x.takes(-1), BAD);
        UnsayingDrums y = laid("l2;h60;");
        row(y, "11111111");
        // by THRICE two in each hour: 0, 1, 60, 61, 120, 121, 180, 181
        due("by THRICE", y.takes(0), 181);
        UnsayingDrums late = laid("h60;");
        for (int i = 0; i < 16; i++) late.pass(600);
        late.pass(399);
        row(late, "33");
        due("behind minute 9999", late.takes(0), 60);
        UnsayingDrums longest = laid("h60;x0,1,60;");
        longest.drum(1, 0);
        longest.pass(1);
        longest.drum(0, 0);
        row(longest, "00000000");
        // at 60 the one on its way takes the one that stands: the first comes then
        due("the longest wait", longest.takes(0), 59 + 420);
    }

    private static void mends() {
        UnsayingDrums x = laid("f4;h10;");
        due("nothing stands", x.mends(0), 0);
        row(x, "1");
        due("one", x.mends(0), 1);
        row(x, "0123");
        due("four", x.mends(0), 4);
        row(x, "01230");
        due("five", x.mends(0), NONE);
        row(x, "11");
        due("its like within the hour", x.mends(0), NONE);
        x.drum(0, 1);
        x.drum(0, 2);
        row(x, "");
        due("both taken back", x.mends(0), 2);
        row(x, "2");
        due("one taken back", x.mends(0), 1);
        row(x, "21");
        due("taken back and said again", x.mends(0), 2);
        row(x, "12");
        due("as it is", x.mends(0), 0);
        due("elsewhere: 1 and 2, ahead of what comes", x.mends(1), 2);
        row(x, "3012");
        // at 1 on minutes 0 and 1: 3, 0; nothing more is needed on 2 but what unsays itself; at 3 come 1 and 2
        due("by what comes, two and two that stand for nothing", x.mends(1), 4);
        due("place 2", x.mends(2), BAD);
        due("place -1", x.mends(-1), BAD);
        UnsayingDrums old = laid("h2;");
        old.drum(0, 0);
        old.pass(1);
        // at 1 it is taken back, from 2 on it is said for good
        row(old, "");
        due("in time", old.mends(0), 1);
        row(old, "00");
        due("3, 3 that takes it back, 0 an hour behind", old.mends(0), 3);
        row(old, "030");
        due("3 now, 0 an hour behind", old.mends(0), 2);
        UnsayingDrums zero = laid("");
        zero.drum(0, 0);
        row(zero, "1");
        due("not any row with a 0", zero.mends(0), 2);
        UnsayingDrums since = laid("l1;");
        for (int s = 0; s < 5; s++) since.drum(0, s);
        row(since, "");
        due("by SINCE one takes all", since.mends(0), 1);
        UnsayingDrums one = laid("");
        for (int s = 0; s < 5; s++) one.drum(0, s);
        due("by ONE five are too many", one.mends(0), NONE);
        due("no beat more", one.count(3), 5);
    }

    private static void spoiled() {
        due("none", laid("").spoiled(0), 0);
        due("none, the first", laid("").spoiled(1), NONE);
        UnsayingDrums x = laid("w0000;w12;w132;w3;w1;w32;w1234;");
        // 12 and 132, 12 and 1, 132 and 32, 3 and 32
        due("pairs", x.spoiled(0), 4);
        due("the first", x.spoiled(1), 12);
        due("what 2", x.spoiled(2), BAD);
        due("what -1", x.spoiled(-1), BAD);
        due("turned round", laid("w12;w21;").spoiled(0), 0);
        due("two left out", laid("w1;w123;").spoiled(0), 0);
        due("the last", laid("w0;w11;w22;w33;w44;w55;w666;w66;").spoiled(1), 67);
        due("one of alike sorts", laid("w111;w1111;").spoiled(0), 1);
        due("in the middle", laid("w0213;w013;").spoiled(1), 1);
        due("in the middle, the longer behind", laid("w023;w0213;").spoiled(1), 1);
        due("in another order", laid("w0213;w031;").spoiled(1), NONE);
    }

    private static void tell() {
        UnsayingDrums x = laid("p5;");
        due("place 5", x.tell(5), BAD);
        due("place -1", x.tell(-1), BAD);
        due("one", x.tell(4), 1);
        due("again", x.tell(4), NO);
        due("two", x.tell(0), 2);
        due("three", x.tell(2), 3);
        due("four", x.tell(1), FULL);
        due("NO ahead of FULL", x.tell(2), NO);
        due("BAD ahead of FULL", x.tell(5), BAD);
        due("three yet", x.count(6), 3);
        // the row is told as it is then
        UnsayingDrums y = laid("f2;");
        row(y, "1");
        y.tell(0);
        y.noRow();
        due("one beat makes it so", y.secret(0), 1);
        due("that beat", y.secret(1), 10000);
        due("told before the row was", y.count(5), 0);
    }

    private static void forget() {
        UnsayingDrums x = new UnsayingDrums();
        due("nothing", x.forget(), 0);
        x.tell(1);
        x.tell(0);
        due("two", x.forget(), 2);
        due("nothing then", x.forget(), 0);
        due("it can be told again", x.tell(1), 1);
    }

    private static void secret() {
        UnsayingDrums x = laid("p3;f4;x0,1,2;x0,2,4;x1,2,1;");
        due("any beat", x.secret(0), 12);
        due("the first of any", x.secret(1), 0);
        x.pass(98);
        due("99 minutes", x.secret(0), 99 * 12);
        x.pass(1);
        due("100 minutes", x.secret(0), 1200);
        due("from minute 0", x.secret(1), 0);
        x.pass(1);
        due("100 minutes yet", x.secret(0), 1200);
        due("from minute 1", x.secret(1), 1);
        row(x, "3");
        x.tell(2);
        // at 2, sort 3, minutes 1 to 100; from 1 to 99; from 0 to 96
        due("heard at 2", x.secret(0), 96 + 99 + 100);
        due("the first", x.secret(1), 30001);
        x.noRow();
        x.tell(0);
        // not heard at 0: from 1 minute 99 (heard at 2 at 100, at 0 at 101); from 2 minutes 97 to 100
        due("not heard at 0", x.secret(0), 1 + 4);
        due("the first", x.secret(1), 130099);
        x.tell(1);
        due("nor at 1: from 2 minute 100", x.secret(0), 1);
        due("that one", x.secret(1), 230100);
        x.pass(1);
        due("it is asked now", x.secret(1), 230101);
        due("what 2", x.secret(2), BAD);
        due("what -1", x.secret(-1), BAD);
        x.forget();
        row(x, "33");
        x.tell(0);
        due("none", x.secret(0), 0);
        due("none, the first", x.secret(1), NONE);
        UnsayingDrums full = laid("p1;f2;h1;");
        for (int i = 0; i < 24; i++) {
            full.drum(0, 0);
        }
        row(full, "1");
        full.tell(0);
        due("the twenty-fifth", full.secret(1), 10000);
    }

    private static void secretBehindItsMinute() {
        UnsayingDrums x = laid("p1;h5;");
        x.drum(0, 1);
        x.pass(1);
        x.drum(0, 2);
        x.pass(1);
        row(x, "132");
        x.tell(0);
        due("behind the beat of minute 0, ahead of that of 1", x.secret(0), 1);
        due("that one", x.secret(1), 30000);
        x.forget();
        row(x, "312");
        x.tell(0);
        due("not ahead of the beat of minute 0", x.secret(0), 0);
        x.forget();
        row(x, "2");
        x.tell(0);
        due("it unsays, or is not unsaid", x.secret(0), 3);
        // heard in one minute: as drummed, so the later minute is behind
        UnsayingDrums y = laid("p2;x0,1,2;");
        y.drum(1, 1);
        y.pass(2);
        y.drum(0, 2);
        y.pass(1);
        row(y, "132");
        y.tell(0);
        due("drummed ahead of it at 1, heard with it", y.secret(0), 1);
        due("that one", y.secret(1), 130000);
    }

    private static void secretAmongThoseOnTheirWay() {
        UnsayingDrums x = laid("p3;x0,1,5;x0,2,6;");
        x.pass(1);
        x.drum(1, 1);
        x.pass(2);
        x.drum(0, 2);
        x.pass(4);
        standsAs(x, 0, 7, "21");
        row(x, "231");
        x.tell(0);
        // at 0 minutes 3, 4, 5; at 1 minute 0 (heard at 5); at 2 minute 0: heard at 6 with the 1, but drummed ahead of it
        due("between them", x.secret(0), 5);
        due("the first", x.secret(1), 30003);
        x.forget();
        row(x, "213");
        x.tell(0);
        // at 0 minutes 6 and 7; at 1 minutes 1 (heard with it, behind it) and 2; at 2 minute 1 (heard at 7)
        due("behind them", x.secret(0), 5);
        due("the first", x.secret(1), 30006);
    }

    private static void chance() {
        UnsayingDrums x = laid("f4;h5;");
        due("now, none: above", x.chance(0, 1, 0, 0), 0);
        due("now, none: below", x.chance(0, 1, 0, 1), 1);
        due("one: above", x.chance(0, 1, 1, 0), 1);
        due("one: below", x.chance(0, 1, 1, 1), 4);
        // once in two: 2 times 3 of 16
        due("two: above", x.chance(0, 1, 2, 0), 3);
        due("two: below", x.chance(0, 1, 2, 1), 8);
        // once or thrice in three: 27 and 1 of 64
        due("three: above", x.chance(0, 1, 3, 0), 7);
        due("three: below", x.chance(0, 1, 3, 1), 16);
        // once or thrice in four: 108 and 12 of 256
        due("four: above", x.chance(0, 1, 4, 0), 15);
        due("four: below", x.chance(0, 1, 4, 1), 32);
        x.drum(0, 1);
        due("it stands: above", x.chance(0, 1, 0, 0), 1);
        due("it stands: below", x.chance(0, 1, 0, 1), 1);
        due("three of four leave it: above", x.chance(0, 1, 1, 0), 3);
        due("three of four leave it: below", x.chance(0, 1, 1, 1), 4);
        due("at 1 it is heard at 3, ahead of the fourth", x.chance(1, 1, 4, 0), 17);
        due("at 1 below", x.chance(1, 1, 4, 1), 32);
        x.pass(5);
        due("said for good: above", x.chance(0, 1, 4, 0), 1);
        due("said for good: below", x.chance(0, 1, 4, 1), 1);
        due("place 2", x.chance(2, 0, 1, 0), BAD);
        due("place -1", x.chance(-1, 0, 1, 0), BAD);
        due("sort 4", x.chance(0, 4, 1, 0), BAD);
        due("sort -1", x.chance(0, -1, 1, 0), BAD);
        due("n 5", x.chance(0, 0, 5, 0), BAD);
        due("n -1", x.chance(0, 0, -1, 0), BAD);
        due("part 2", x.chance(0, 0, 1, 2), BAD);
        due("part -1", x.chance(0, 0, 1, -1), BAD);
        due("sort 0 now: above", x.chance(0, 0, 0, 0), 0);
        due("sort 0: above", x.chance(0, 0, 2, 0), 3);
        due("sort 0: below", x.chance(0, 0, 2, 1), 8);
        UnsayingDrums never = laid("f3;l1;");
        never.drum(0, 0);
        never.drum(0, 2);
        // by SINCE a 0 takes the 2, too: only sort 1 leaves it
        due("by SINCE above", never.chance(0, 2, 1, 0), 1);
        due("by SINCE below", never.chance(0, 2, 1, 1), 3);
    }

    private static void day() {
        UnsayingDrums x = new UnsayingDrums();
        due("one beat", x.day(0, 1, 0), 1);
        due("one beat elsewhere", x.day(9999, 1, 1), 1);
        due("of 99", x.day(5, 99, 0), 17);
        x.drum(0, 0);
        x.pass(9);
        due("what was drummed is nothing to it", x.day(5, 99, 0), 17);
        due("nor it to that", x.count(3), 1);
        due("something stands", x.stands(0, 9, -1), 1);
        due("that, too, is nothing to it", x.day(5, 99, 0), 17);
        due("z -1", x.day(-1, 1, 0), BAD);
        due("z 10000", x.day(10000, 1, 0), BAD);
        due("n 0", x.day(0, 0, 0), BAD);
        due("n 100", x.day(0, 100, 0), BAD);
        due("place 2", x.day(0, 1, 2), BAD);
        due("place -1", x.day(0, 1, -1), BAD);
        due("far off", x.day(MAX, MAX, MAX), BAD);
        // z 0, k 0 and 1: draws 1 and 6152 * 6152 modulo 65521 = 41487: sorts 0 and 1 (of 2), 3 minutes apart
        UnsayingDrums two = laid("f2;");
        due("two unlike beats", two.day(0, 2, 0), 2);
        UnsayingDrums hour = laid("p5;x0,4,60;x1,3,0;h60;l1;");
        due("by SINCE", hour.day(9999, 99, 0), 4);
    }

    private static void keepAndBack() {
        UnsayingDrums x = new UnsayingDrums();
        due("none kept", x.back(), NO);
        x.drum(0, 1);
        due("keep 1", x.keep(), 1);
        x.pass(5);
        x.drum(1, 2);
        due("keep 2", x.keep(), 2);
        due("keep 3", x.keep(), FULL);
        due("keeping is no step", x.count(7), 3);
        x.undo();
        x.drum(0, 7);
        x.pass(1);
        row(x, "12");
        x.tell(0);
        due("back to the second", x.back(), 1);
        due("beats", x.count(3), 2);
        due("its place", x.beat(1, 0), 1);
        due("its sort", x.beat(1, 1), 2);
        due("its minute", x.beat(1, 2), 5);
        due("minute", x.count(4), 5);
        due("nothing is UNDONE then", x.undo(), NO);
        due("the told row stays", x.count(5), 2);
        due("what is told of SECRETS stays", x.count(6), 1);
        x.pass(3);
        due("steps then", x.count(7), 1);
        due("back to the first", x.back(), 0);
        due("one beat", x.count(3), 1);
        due("minute 0", x.count(4), 0);
        due("no step", x.count(7), 0);
        x.pass(2);
        due("none left", x.back(), NO);
        due("nothing changes then", x.count(7), 1);
        due("keep again", x.keep(), 1);
        // what is kept does not change by what is drummed in its stead
        x.pass(3);
        x.drum(1, 3);
        x.keep();
        x.undo();
        x.pass(2);
        x.drum(0, 4);
        x.back();
        int[] due = {1, 3, 5};
        for (int what = 0; what < 3; what++) {
            due("kept beat, " + what, x.beat(1, what), due[what]);
        }
        x.undo();
        x.back();
        int[] first = {0, 1, 0};
        for (int what = 0; what < 3; what++) {
            due("first kept beat, " + what, x.beat(0, what), first[what]);
        }
    }

    private static void count() {
        UnsayingDrums x = laid("p4;f6;w1;w2;w3;");
        x.drum(3, 5);
        x.drum(3, 4);
        x.pass(77);
        row(x, "01234");
        x.tell(1);
        x.tell(0);
        x.keep();
        int[] due = {4, 6, 3, 2, 77, 5, 2, 3, 1, 15};
        for (int what = 0; what < 10; what++) {
            due("count " + what, x.count(what), due[what]);
        }
        due("count 10", x.count(10), BAD);
        due("count -1", x.count(-1), BAD);
        due("count MIN", x.count(MIN), BAD);
        due("count MAX", x.count(MAX), BAD);
    }
}
