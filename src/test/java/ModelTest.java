import java.util.Random;
import java.util.StringJoiner;

/** Runs by draws (the same ones each time) on the class and on the model: their answers are alike. */
public final class ModelTest {
    private static final int RUNS = 1500;
    private static final int CALLS = 300;
    /** The document promises nothing behind the 512th call of an object; a text takes up to some 150 to lay. */
    private static final int MOST_CALLS = 512, ROOM_FOR_A_TEXT = 180;
    private static final String[] NAMES = {"write", "wipe", "fault", "lay", "delay", "word", "drum", "pass", "undo",
        "beat", "stands", "said", "meaning", "unsay", "open", "add", "noRow", "takes", "mends", "spoiled", "tell",
        "forget", "secret", "chance", "day", "keep", "back", "count"};
    /** How often each is drawn: what makes a state interesting, more; what the model does slowly, less. */
    private static final int[] WEIGHT = {4, 1, 4, 1, 8, 8, 150, 70, 10, 8, 60, 30, 40, 40, 20, 30, 5, 20, 2, 5, 10,
        3, 5, 4, 6, 5, 4, 15};

    private final Random draws;
    private final int most;
    private UnsayingDrums drums = new UnsayingDrums();
    private Model model = new Model();
    private final StringJoiner log = new StringJoiner("\n  ");
    private final int[] answered;
    private int made = 0;

    private ModelTest(long seed, int[] answered) {
        draws = new Random(seed);
        most = 1 + draws.nextInt(8);
        this.answered = answered;
    }

    public static void main(String[] args) {
        int wrong = 0;
        int[] answered = new int[NAMES.length];
        for (int run = 0; run < RUNS; run++) {
            ModelTest test = new ModelTest(run, answered);
            if (!test.isAlike()) {
                wrong++;
                System.out.println("run " + run + ":\n  " + test.log);
                if (wrong == 3) break;
            }
        }
        for (int i = 0; i < NAMES.length; i++) {
            if (answered[i] < 20) {
                System.out.println(NAMES[i] + " was answered well only " + answered[i] + " times");
                wrong++;
            }
        }
        System.out.println(wrong == 0 ? "model: alike" : "model: " + wrong + " not alike");
        if (wrong != 0) System.exit(1);
    }

    private boolean isAlike() {
        if (draws.nextInt(4) > 0) {
            if (!layText(goodText())) return false;
        }
        if (draws.nextInt(8) == 0 && !passToTheLastMinutes()) return false;
        for (int i = 0; i < CALLS && made + ROOM_FOR_A_TEXT < MOST_CALLS; i++) {
            if (draws.nextInt(150) == 0 && !layText(draws.nextBoolean() ? goodText() : badText())) return false;
            if (!call(drawName())) return false;
        }
        return true;
    }

    private boolean passToTheLastMinutes() {
        boolean alike = true;
        for (int i = 0; i < 16 && alike; i++) alike = same("pass(600)", drums.pass(600), model.pass(600));
        int rest = 300 + draws.nextInt(99);
        return alike && same("pass(" + rest + ")", drums.pass(rest), model.pass(rest));
    }

    private int drawName() {
        int sum = 0;
        for (int w : WEIGHT) sum += w;
        int at = draws.nextInt(sum);
        int name = 0;
        while (at >= WEIGHT[name]) at -= WEIGHT[name++];
        return name;
    }

    private String goodText() {
        StringBuilder s = new StringBuilder();
        int places = 2;
        if (draws.nextInt(5) > 0) {
            places = 1 + draws.nextInt(5);
            s.append('p').append(places).append(';');
        }
        int items = draws.nextInt(14);
        int longest = draws.nextBoolean() ? 61 : 8;
        for (int i = 0; i < items; i++) {
            switch (draws.nextInt(7)) {
                case 0: s.append('h').append(1 + draws.nextInt(longest - 1)).append(';'); break;
                case 1: s.append('l').append(draws.nextInt(3)).append(';'); break;
                case 2: s.append('f').append(2 + draws.nextInt(draws.nextInt(7) + 1)).append(';'); break;
                case 3: case 4:
                    if (places > 1) {
                        int a = draws.nextInt(places), b = (a + 1 + draws.nextInt(places - 1)) % places;
                        s.append('x').append(a).append(',').append(b).append(',').append(draws.nextInt(longest)).append(';');
                    }
                    break;
                default:
                    s.append('w');
                    for (int k = draws.nextInt(4); k >= 0; k--) s.append(draws.nextInt(most));
                    s.append(';');
            }
        }
        return s.toString();
    }

    private String badText() {
        StringBuilder s = new StringBuilder(goodText());
        for (int n = 1 + draws.nextInt(3); n > 0; n--) {
            int at = draws.nextInt(s.length() + 1);
            s.insert(at, "pxhlfw0123456789,;;\u00e9 ".charAt(draws.nextInt(21)));
            if (draws.nextInt(3) == 0) s.deleteCharAt(draws.nextInt(s.length()));
        }
        return s.toString();
    }

    private boolean layText(String text) {
        boolean alike = same("wipe()", drums.wipe(), model.wipe());
        for (int at = 0; alike && at < text.length(); ) {
            int n = Math.min(1 + draws.nextInt(8), text.length() - at);
            long v = draws.nextLong();
            for (int i = 0; i < n; i++) v = v << 8 | text.charAt(at + i);
            alike = same("write(" + n + ", " + v + ") " + text.substring(at, at + n), drums.write(n, v), model.write(n, v));
            at += n;
        }
        return alike && same("fault()", drums.fault(), model.fault()) && same("lay()", drums.lay(), model.lay());
    }

    private boolean same(String call, int got, int due) {
        made++;
        if (made > MOST_CALLS) throw new IllegalStateException("more calls than are promised");
        log.add(call + " = " + got + (got == due ? "" : ", the model says " + due));
        return got == due;
    }

    /** Mostly a number that may be told, now and then one just beside or far off. */
    private int near(int low, int high) {
        switch (draws.nextInt(40)) {
            case 0: return low - 1;
            case 1: return high + 1;
            case 2: return draws.nextInt();
            default: return low + draws.nextInt(Math.max(1, high - low + 1));
        }
    }

    private int place() {
        return near(0, model.count(0) - 1);
    }

    private int sort() {
        return near(0, Math.min(most, model.count(1)) - 1);
    }

    private int minute() {
        return draws.nextInt(30) == 0 ? near(0, 9999) : Math.max(0, model.count(4) - 30 + draws.nextInt(100));
    }

    private boolean call(int name) {
        int p = place(), s = sort(), t = minute(), k = near(0, 5), what = near(0, 1);
        int got, due;
        String a = "";
        switch (NAMES[name]) {
            case "write": { int n = near(1, 8); long v = draws.nextLong(); a = n + ", " + v; got = drums.write(n, v); due = model.write(n, v); break; }
            case "wipe": got = drums.wipe(); due = model.wipe(); break;
            case "fault": got = drums.fault(); due = model.fault(); break;
            case "lay": got = drums.lay(); due = model.lay(); break;
            case "delay": { int b = place(); a = p + ", " + b; got = drums.delay(p, b); due = model.delay(p, b); break; }
            case "word": { int w = near(0, model.count(2)); a = w + ", " + k; got = drums.word(w, k); due = model.word(w, k); break; }
            case "drum": a = p + ", " + s; got = drums.drum(p, s); due = model.drum(p, s); break;
            case "pass": { int n = draws.nextInt(12) == 0 ? near(1, 600) : 1 + draws.nextInt(5); a = "" + n; got = drums.pass(n); due = model.pass(n); break; }
            case "undo": got = drums.undo(); due = model.undo(); break;
            case "beat": { int i = near(0, model.count(3)), w = near(0, 2); a = i + ", " + w; got = drums.beat(i, w); due = model.beat(i, w); break; }
            case "stands": { int j = near(-1, 8); a = p + ", " + t + ", " + j; got = drums.stands(p, t, j); due = model.stands(p, t, j); break; }
            case "said": a = p + ", " + t; got = drums.said(p, t); due = model.said(p, t); break;
            case "meaning": a = p + ", " + t + ", " + k / 2; got = drums.meaning(p, t, k / 2); due = model.meaning(p, t, k / 2); break;
            case "unsay": { int q = place(); a = p + ", " + k + ", " + q; got = drums.unsay(p, k, q); due = model.unsay(p, k, q); break; }
            case "open": a = "" + p; got = drums.open(p); due = model.open(p); break;
            case "add": a = "" + s; got = drums.add(s); due = model.add(s); break;
            case "noRow": got = drums.noRow(); due = model.noRow(); break;
            case "takes": a = "" + p; got = drums.takes(p); due = model.takes(p); break;
            case "mends": if (!tellWhatStands(p, true)) return false; a = "" + p; got = drums.mends(p); due = model.mends(p); break;
            case "spoiled": a = "" + what; got = drums.spoiled(what); due = model.spoiled(what); break;
            case "tell": if (draws.nextBoolean() && !tellWhatStands(p, false)) return false; a = "" + p; got = drums.tell(p); due = model.tell(p); break;
            case "forget": got = drums.forget(); due = model.forget(); break;
            case "secret": a = "" + what; got = drums.secret(what); due = model.secret(what); break;
            case "chance": { int n = near(0, 4); a = p + ", " + s + ", " + n + ", " + what; got = drums.chance(p, s, n, what); due = model.chance(p, s, n, what); break; }
            case "day": { int z = near(0, 9999), n = near(1, 99); a = z + ", " + n + ", " + p; got = drums.day(z, n, p); due = model.day(z, n, p); break; }
            case "keep": got = drums.keep(); due = model.keep(); break;
            case "back": got = drums.back(); due = model.back(); break;
            default: { int w = near(0, 9); a = "" + w; got = drums.count(w); due = model.count(w); }
        }
        if (got >= 0) answered[name]++;
        return same(NAMES[name] + "(" + a + ")", got, due);
    }

    /** A told row near to what stands, that a few beats or one beat more may reach. */
    private boolean tellWhatStands(int p, boolean ahead) {
        if (p < 0 || p >= model.count(0) || draws.nextInt(4) == 0) return true;
        int t = Math.min(9999, model.count(4) + (ahead ? draws.nextInt(4) : 0));
        boolean alike = same("noRow()", drums.noRow(), model.noRow());
        int standing = model.stands(p, t, -1);
        int left = draws.nextInt(3) == 0 ? draws.nextInt(standing + 1) : -1;
        for (int k = 0; k < standing && alike; k++) {
            int s = model.stands(p, t, k);
            if (k != left) alike = same("add(" + s + ")", drums.add(s), model.add(s));
        }
        if (alike && draws.nextInt(3) == 0) {
            int s = sort();
            alike = same("add(" + s + ")", drums.add(s), model.add(s));
        }
        return alike;
    }
}
