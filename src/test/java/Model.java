import java.util.ArrayDeque;
import java.util.ArrayList;
import java.util.Comparator;
import java.util.Deque;
import java.util.List;
import java.util.regex.Matcher;
import java.util.regex.Pattern;

/** The document once more, slow and by other means than the class: every answer is made anew from the beats. */
final class Model {
    static final int BAD = -1, NO = -2, FULL = -3, NONE = -4;

    record Beat(int place, int sort, int minute) { }
    record Heard(Beat beat, int minute) { }
    record State(List<Beat> beats, int now) { }

    private static final class Laid {
        int places = 2, hour = 20, law = 0, sorts = 8;
        boolean xTold = false;
        final int[][] delay = new int[5][5];
        final List<String> words = new ArrayList<>();

        Laid() {
            for (int[] row : delay) {
                java.util.Arrays.fill(row, 3);
            }
            for (int i = 0; i < 5; i++) {
                delay[i][i] = 0;
            }
        }
    }

    private static final Pattern ITEM = Pattern.compile(
        "p(?<p>\\d{1,2});|x(?<a>\\d{1,2}),(?<b>\\d{1,2}),(?<d>\\d{1,2});|h(?<h>\\d{1,2});"
        + "|l(?<l>\\d{1,2});|f(?<f>\\d{1,2});|w(?<w>[0-7]{1,4});");

    private String text = "";
    private Laid laid = new Laid();
    private State state = new State(List.of(), 0);
    private final Deque<State> undo = new ArrayDeque<>();
    private final Deque<State> kept = new ArrayDeque<>();
    private String told = "";
    private final List<Integer> secretPlaces = new ArrayList<>();
    private final List<String> secretRows = new ArrayList<>();

    int write(int n, long v) {
        if (n < 1 || n > 8) return BAD;
        if (text.length() + n > 300) return FULL;
        for (int i = 0; i < n; i++) {
            text += (char) ((v >> (8 * (n - 1 - i))) & 255);
        }
        return text.length();
    }

    int wipe() {
        int n = text.length();
        text = "";
        return n;
    }

    private static boolean in(int v, int low, int high) {
        return low <= v && v <= high;
    }

    /** Null where the item is not so. */
    private static boolean accept(Matcher m, Laid l) {
        if (m.group("p") != null) {
            int n = Integer.parseInt(m.group("p"));
            l.places = n;
            return in(n, 1, 5) && !l.xTold;
        }
        if (m.group("a") != null) {
            int a = Integer.parseInt(m.group("a")), b = Integer.parseInt(m.group("b")), d = Integer.parseInt(m.group("d"));
            if (a >= l.places || b >= l.places || a == b || d > 60) return false;
            l.delay[a][b] = d;
            l.delay[b][a] = d;
            l.xTold = true;
            return true;
        }
        if (m.group("h") != null) {
            l.hour = Integer.parseInt(m.group("h"));
            return in(l.hour, 1, 60);
        }
        if (m.group("l") != null) {
            l.law = Integer.parseInt(m.group("l"));
            return in(l.law, 0, 2);
        }
        if (m.group("f") != null) {
            l.sorts = Integer.parseInt(m.group("f"));
            return in(l.sorts, 2, 8);
        }
        if (l.words.contains(m.group("w"))) return false;
        l.words.add(m.group("w"));
        return l.words.size() <= 8;
    }

    private int read(Laid l) {
        int at = 0;
        while (at < text.length()) {
            Matcher m = ITEM.matcher(text).region(at, text.length());
            if (!m.lookingAt() || !accept(m, l)) return at;
            at = m.end();
        }
        return NONE;
    }

    int fault() {
        return read(new Laid());
    }

    int lay() {
        Laid l = new Laid();
        if (read(l) != NONE) return NO;
        laid = l;
        state = new State(List.of(), 0);
        undo.clear();
        kept.clear();
        told = "";
        secretPlaces.clear();
        secretRows.clear();
        return l.places;
    }

    private boolean noPlace(int p) {
        return !in(p, 0, laid.places - 1);
    }

    private boolean noSort(int s) {
        return !in(s, 0, laid.sorts - 1);
    }

    int delay(int a, int b) {
        return noPlace(a) || noPlace(b) ? BAD : laid.delay[a][b];
    }

    int word(int w, int k) {
        if (!in(w, 0, laid.words.size() - 1) || k < 0) return BAD;
        return k < laid.words.get(w).length() ? laid.words.get(w).charAt(k) - '0' : NONE;
    }

    private void step(State next) {
        undo.addLast(state);
        if (undo.size() > 8) undo.removeFirst();
        state = next;
    }

    int drum(int p, int sort) {
        if (noPlace(p) || noSort(sort)) return BAD;
        if (state.beats.size() == 24) return FULL;
        step(new State(with(state.beats, state.beats.size(), new Beat(p, sort, state.now)), state.now));
        return state.beats.size();
    }

    private static List<Beat> with(List<Beat> beats, int at, Beat beat) {
        List<Beat> more = new ArrayList<>(beats);
        more.add(at, beat);
        return more;
    }

    int pass(int n) {
        if (!in(n, 1, 600)) return BAD;
        if (state.now + n > 9999) return NO;
        step(new State(state.beats, state.now + n));
        return state.now;
    }

    int undo() {
        if (undo.isEmpty()) return NO;
        state = undo.removeLast();
        return undo.size();
    }

    int beat(int i, int what) {
        if (!in(i, 0, state.beats.size() - 1) || !in(what, 0, 2)) return BAD;
        Beat b = state.beats.get(i);
        return what == 0 ? b.place : what == 1 ? b.sort : b.minute;
    }

    /** All that is heard at a place, in its order: the sort of a list keeps the order of drumming. */
    private List<Heard> heard(List<Beat> beats, int p) {
        List<Heard> all = new ArrayList<>();
        for (Beat b : beats) {
            all.add(new Heard(b, b.minute + laid.delay[b.place][p]));
        }
        all.sort(Comparator.comparingInt(Heard::minute));
        return all;
    }

    private void hear(List<Heard> row, Heard h) {
        List<Heard> such = new ArrayList<>();
        for (Heard r : row) {
            if (r.beat.sort == h.beat.sort && h.minute - r.minute < laid.hour) such.add(r);
        }
        if (such.size() < (laid.law == 2 ? 2 : 1)) {
            row.add(h);
            return;
        }
        int at = indexOf(row, such.get(such.size() - 1).beat);
        if (laid.law == 1) {
            row.subList(at, row.size()).clear();
        } else {
            row.remove(at);
        }
    }

    private static int indexOf(List<Heard> row, Beat beat) {
        for (int i = 0; i < row.size(); i++) {
            if (row.get(i).beat == beat) return i;
        }
        return -1;
    }

    private List<Heard> standing(List<Beat> beats, int p, int t) {
        List<Heard> row = new ArrayList<>();
        for (Heard h : heard(beats, p)) {
            if (h.minute <= t) hear(row, h);
        }
        return row;
    }

    private static String sorts(List<Heard> row) {
        StringBuilder s = new StringBuilder();
        for (Heard h : row) {
            s.append(h.beat.sort);
        }
        return s.toString();
    }

    int stands(int p, int t, int k) {
        if (noPlace(p) || !in(t, 0, 9999) || k < -1) return BAD;
        List<Heard> row = standing(state.beats, p, t);
        return k == -1 ? row.size() : k < row.size() ? row.get(k).beat.sort : NONE;
    }

    private String saidRow(int p, int t) {
        List<Heard> row = standing(state.beats, p, t);
        row.removeIf(h -> t - h.minute < laid.hour);
        return sorts(row);
    }

    int said(int p, int t) {
        return noPlace(p) || !in(t, 0, 9999) ? BAD : saidRow(p, t).length();
    }

    int meaning(int p, int t, int i) {
        if (noPlace(p) || !in(t, 0, 9999) || i < 0) return BAD;
        String rest = saidRow(p, t);
        List<Integer> read = new ArrayList<>();
        while (!rest.isEmpty()) {
            String best = "";
            for (String w : laid.words) {
                if (rest.startsWith(w) && w.length() > best.length()) best = w;
            }
            if (!best.isEmpty()) read.add(laid.words.indexOf(best));
            rest = rest.substring(Math.max(1, best.length()));
        }
        return i < read.size() ? read.get(i) : NONE;
    }

    int unsay(int p, int k, int q) {
        if (noPlace(p) || noPlace(q) || k < 0) return BAD;
        List<Heard> row = standing(state.beats, p, state.now);
        if (k >= row.size()) return NONE;
        Beat wanted = row.get(k).beat;
        Beat extra = new Beat(q, wanted.sort, state.now);
        List<Heard> now = new ArrayList<>();
        for (Heard h : heard(with(state.beats, state.beats.size(), extra), p)) {
            boolean stood = indexOf(now, wanted) >= 0;
            hear(now, h);
            if (h.beat == extra) return stood && indexOf(now, wanted) < 0 ? 1 : 0;
        }
        return 0;
    }

    int open(int p) {
        if (noPlace(p)) return BAD;
        int n = 0;
        for (int k = 0; k < standing(state.beats, p, state.now).size(); k++) {
            int any = 0;
            for (int q = 0; q < laid.places; q++) {
                any |= unsay(p, k, q);
            }
            n += any;
        }
        return n;
    }

    int add(int sort) {
        if (noSort(sort)) return BAD;
        if (told.length() == 8) return FULL;
        told += sort;
        return told.length();
    }

    int noRow() {
        int n = told.length();
        told = "";
        return n;
    }

    int takes(int p) {
        if (noPlace(p)) return BAD;
        List<Beat> beats = state.beats;
        int minute = state.now - 1;
        for (char c : told.toCharArray()) {
            Beat b;
            List<Beat> tried;
            do {
                minute++;
                if (minute > state.now + 600) return NONE;
                b = new Beat(p, c - '0', minute);
                tried = with(beats, beats.size(), b);
            } while (indexOf(standing(tried, p, minute), b) < 0);
            beats = tried;
        }
        return told.isEmpty() ? 0 : minute - state.now;
    }

    /** Every row of n sorts, drummed a minute apart from now on: how many do as asked. */
    private int ways(int p, int n, java.util.function.Predicate<String> asked) {
        int ways = 0;
        int all = (int) Math.round(Math.pow(laid.sorts, n));
        for (int code = 0; code < all; code++) {
            List<Beat> beats = new ArrayList<>(state.beats);
            int rest = code;
            for (int i = 0; i < n; i++) {
                beats.add(new Beat(p, rest % laid.sorts, state.now + i));
                rest /= laid.sorts;
            }
            if (asked.test(sorts(standing(beats, p, state.now + Math.max(0, n - 1))))) ways++;
        }
        return ways;
    }

    int mends(int p) {
        if (noPlace(p)) return BAD;
        for (int n = 0; n <= 4; n++) {
            if (ways(p, n, row -> row.equals(told)) > 0) return n;
        }
        return NONE;
    }

    private static boolean isLessOne(String shorter, String longer) {
        for (int k = 0; k < longer.length(); k++) {
            if (new StringBuilder(longer).deleteCharAt(k).toString().equals(shorter)) return true;
        }
        return false;
    }

    int spoiled(int what) {
        if (!in(what, 0, 1)) return BAD;
        List<Integer> pairs = new ArrayList<>();
        for (int i = 0; i < laid.words.size(); i++) {
            for (int j = i + 1; j < laid.words.size(); j++) {
                String a = laid.words.get(i), b = laid.words.get(j);
                if (isLessOne(a, b) || isLessOne(b, a)) pairs.add(10 * i + j);
            }
        }
        return what == 0 ? pairs.size() : pairs.isEmpty() ? NONE : pairs.get(0);
    }

    int tell(int p) {
        if (noPlace(p)) return BAD;
        if (secretPlaces.contains(p)) return NO;
        if (secretPlaces.size() == 3) return FULL;
        secretPlaces.add(p);
        secretRows.add(told);
        return secretPlaces.size();
    }

    int forget() {
        int n = secretPlaces.size();
        secretPlaces.clear();
        secretRows.clear();
        return n;
    }

    private boolean fits(Beat extra) {
        int at = 0;
        while (at < state.beats.size() && state.beats.get(at).minute <= extra.minute) at++;
        List<Beat> beats = with(state.beats, at, extra);
        for (int i = 0; i < secretPlaces.size(); i++) {
            if (!sorts(standing(beats, secretPlaces.get(i), state.now)).equals(secretRows.get(i))) return false;
        }
        return true;
    }

    int secret(int what) {
        if (!in(what, 0, 1)) return BAD;
        int n = 0, first = NONE;
        for (int p = 0; p < laid.places; p++) {
            for (int s = 0; s < laid.sorts; s++) {
                for (int m = 0; m <= state.now; m++) {
                    if (m <= state.now - 100 || !fits(new Beat(p, s, m))) continue;
                    if (n == 0) first = 100000 * p + 10000 * s + m;
                    n++;
                }
            }
        }
        return what == 0 ? n : first;
    }

    int chance(int p, int s, int n, int part) {
        if (noPlace(p) || noSort(s) || !in(n, 0, 4) || !in(part, 0, 1)) return BAD;
        int above = ways(p, n, row -> row.indexOf('0' + s) >= 0);
        int below = (int) Math.round(Math.pow(laid.sorts, n));
        int g = java.math.BigInteger.valueOf(above).gcd(java.math.BigInteger.valueOf(below)).intValue();
        return (part == 0 ? above : below) / g;
    }

    int day(int z, int n, int p) {
        if (!in(z, 0, 9999) || !in(n, 1, 99) || noPlace(p)) return BAD;
        List<Beat> beats = new ArrayList<>();
        int minute = 0;
        for (int k = 0; k < n; k++) {
            java.math.BigInteger x = java.math.BigInteger.valueOf(7919L * z + 6151L * k + 1);
            int draw = x.modPow(java.math.BigInteger.TWO, java.math.BigInteger.valueOf(65521)).intValue();
            if (k > 0) minute += (draw / 64) % 5;
            beats.add(new Beat(draw % laid.places, (draw / 8) % laid.sorts, minute));
        }
        return standing(beats, p, 100000).size();
    }

    int keep() {
        if (kept.size() == 2) return FULL;
        kept.addLast(state);
        return kept.size();
    }

    int back() {
        if (kept.isEmpty()) return NO;
        state = kept.removeLast();
        undo.clear();
        return kept.size();
    }

    int count(int what) {
        int[] all = {laid.places, laid.sorts, laid.words.size(), state.beats.size(), state.now, told.length(),
            secretPlaces.size(), undo.size(), kept.size(), text.length()};
        return in(what, 0, 9) ? all[what] : BAD;
    }
}
