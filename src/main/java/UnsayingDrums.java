/** Drums on hills: a beat that comes again within the hour takes back the first. */
public final class UnsayingDrums {
    public static final int BAD = -1, NO = -2, FULL = -3, NONE = -4;

    private static final int MOST_BYTES = 300;
    private static final int MOST_PLACES = 5;
    private static final int MOST_SORTS = 8;
    private static final int MOST_WORDS = 8;
    private static final int MOST_WORD_SORTS = 4;
    private static final int MOST_BEATS = 24;
    private static final int MOST_UNDONE = 8;
    private static final int MOST_TOLD_SORTS = 8;
    private static final int MOST_SECRETS = 3;
    private static final int MOST_KEPT = 2;
    private static final int MOST_TRIED = 4;
    private static final int MOST_DAY_BEATS = 99;
    private static final int MOST_PASSING = 600;
    private static final int MOST_WAITING = 600;
    private static final int MOST_DELAY = 60;
    private static final int MOST_HOUR = 60;
    private static final int LAST_MINUTE = 9999;
    private static final int LAST_DAY = 9999;
    private static final int SECRET_MINUTES = 100;
    private static final int SINCE = 1, THRICE = 2;
    /** In a trial: not a SORT is looked for, but the told row. */
    private static final int TOLD_ROW = -1;
    /** The mark of a beat that was not drummed, only thought of. */
    private static final int THOUGHT_OF = -1;

    private final Text text;
    private final Reader reader;
    private final Hills laid;
    private final Beats beats;
    private final Steps steps;
    private final Beats[] kept;
    private int keptSize;
    private final SortRow told;
    private final Secrets secrets;
    private final Trials trials;
    private final Queue queue;
    private final Row row;
    /** What would stand: it leaves alone what stands in row. */
    private final Row later;

    public UnsayingDrums() {
        text = new Text();
        reader = new Reader(text);
        laid = new Hills();
        beats = new Beats();
        steps = new Steps();
        kept = new Beats[MOST_KEPT];
        for (int i = 0; i < MOST_KEPT; i++) {
            kept[i] = new Beats();
        }
        told = new SortRow(MOST_TOLD_SORTS);
        secrets = new Secrets(laid, beats);
        trials = new Trials(laid, beats, told);
        queue = new Queue(MOST_DAY_BEATS);
        row = new Row(laid, MOST_DAY_BEATS);
        later = new Row(laid, MOST_BEATS + 1);
    }

    // ---- hills

    public int write(int n, long v) {
        if (n < 1 || n > 8) {
            return BAD;
        }
        return text.append(n, v) ? text.size : FULL;
    }

    public int wipe() {
        int had = text.size;
        text.size = 0;
        return had;
    }

    public int fault() {
        return reader.firstFault();
    }

    public int lay() {
        if (reader.firstFault() != NONE) {
            return NO;
        }
        laid.copyFrom(reader.hills);
        beats.size = 0;
        beats.now = 0;
        told.size = 0;
        secrets.size = 0;
        steps.size = 0;
        keptSize = 0;
        return laid.places;
    }

    public int delay(int a, int b) {
        if (!laid.isPlace(a) || !laid.isPlace(b)) {
            return BAD;
        }
        return laid.minutesBetween(a, b);
    }

    public int word(int w, int k) {
        if (!laid.book.isWord(w) || k < 0) {
            return BAD;
        }
        SortRow sorts = laid.book.words[w];
        return k < sorts.size ? sorts.sort[k] : NONE;
    }

    // ---- beats

    public int drum(int p, int sort) {
        if (!laid.isPlace(p) || !laid.isSort(sort)) {
            return BAD;
        }
        if (!beats.append(p, sort)) {
            return FULL;
        }
        steps.append(Steps.DRUMMED);
        return beats.size;
    }

    public int pass(int n) {
        if (n < 1 || n > MOST_PASSING) {
            return BAD;
        }
        if (beats.now + n > LAST_MINUTE) {
            return NO;
        }
        beats.now += n;
        steps.append(n);
        return beats.now;
    }

    public int undo() {
        if (steps.size == 0) {
            return NO;
        }
        int step = steps.takeLatest();
        if (step == Steps.DRUMMED) {
            beats.dropLatest();
        } else {
            beats.now -= step;
        }
        return steps.size;
    }

    public int beat(int i, int what) {
        if (!beats.isBeat(i)) {
            return BAD;
        }
        switch (what) {
            case 0: return beats.place[i];
            case 1: return beats.sort[i];
            case 2: return beats.minute[i];
            default: return BAD;
        }
    }

    // ---- what stands

    public int stands(int p, int t, int k) {
        if (!laid.isPlace(p) || !isMinute(t) || k < -1) {
            return BAD;
        }
        standAt(p, t);
        if (k == -1) {
            return row.size;
        }
        return k < row.size ? row.sort[k] : NONE;
    }

    public int said(int p, int t) {
        if (!laid.isPlace(p) || !isMinute(t)) {
            return BAD;
        }
        standAt(p, t);
        return row.howManySaid(t);
    }

    public int meaning(int p, int t, int i) {
        if (!laid.isPlace(p) || !isMinute(t) || i < 0) {
            return BAD;
        }
        standAt(p, t);
        return laid.book.wordRead(row, row.howManySaid(t), i);
    }

    public int unsay(int p, int k, int q) {
        if (!laid.isPlace(p) || !laid.isPlace(q) || k < 0) {
            return BAD;
        }
        standAt(p, beats.now);
        if (k >= row.size) {
            return NONE;
        }
        return goesBy(p, q, row.sort[k], row.mark[k]) ? 1 : 0;
    }

    public int open(int p) {
        if (!laid.isPlace(p)) {
            return BAD;
        }
        standAt(p, beats.now);
        int found = 0;
        for (int k = 0; k < row.size; k++) {
            if (goesBySome(p, row.sort[k], row.mark[k])) {
                found++;
            }
        }
        return found;
    }

    // ---- told rows

    public int add(int sort) {
        if (!laid.isSort(sort)) {
            return BAD;
        }
        return told.append(sort) ? told.size : FULL;
    }

    public int noRow() {
        int had = told.size;
        told.size = 0;
        return had;
    }

    public int takes(int p) {
        if (!laid.isPlace(p)) {
            return BAD;
        }
        if (told.size == 0) {
            return 0;
        }
        queue.fillFrom(beats, laid, p);
        row.empty();
        int come = 0;
        for (int waited = 0; waited <= MOST_WAITING; waited++) {
            int minute = beats.now + waited;
            row.hearTo(queue, minute);
            if (row.wouldCome(told.sort[come], minute)) {
                row.hear(told.sort[come], minute, THOUGHT_OF);
                come++;
                if (come >= told.size) {
                    return waited;
                }
            }
        }
        return NONE;
    }

    public int mends(int p) {
        if (!laid.isPlace(p)) {
            return BAD;
        }
        for (int n = 0; n <= MOST_TRIED; n++) {
            if (trials.countWays(p, n, TOLD_ROW) > 0) {
                return n;
            }
        }
        return NONE;
    }

    public int spoiled(int what) {
        if (what != 0 && what != 1) {
            return BAD;
        }
        return what == 0 ? laid.book.howManySpoiled() : laid.book.firstSpoiled();
    }

    // ---- secrets, chance, days

    public int tell(int p) {
        if (!laid.isPlace(p)) {
            return BAD;
        }
        if (secrets.isTold(p)) {
            return NO;
        }
        return secrets.append(p, told) ? secrets.size : FULL;
    }

    public int forget() {
        int had = secrets.size;
        secrets.size = 0;
        return had;
    }

    public int secret(int what) {
        if (what != 0 && what != 1) {
            return BAD;
        }
        secrets.search();
        return what == 0 ? secrets.found : secrets.first;
    }

    public int chance(int p, int s, int n, int part) {
        if (!laid.isPlace(p) || !laid.isSort(s) || n < 0 || n > MOST_TRIED || part < 0 || part > 1) {
            return BAD;
        }
        int above = trials.countWays(p, n, s);
        int below = 1;
        for (int i = 0; i < n; i++) {
            below *= laid.sorts;
        }
        int common = commonDivisor(above, below);
        if (common < 1) {
            return NONE;
        }
        return part == 0 ? above / common : below / common;
    }

    public int day(int z, int n, int p) {
        if (z < 0 || z > LAST_DAY || n < 1 || n > MOST_DAY_BEATS || !laid.isPlace(p)) {
            return BAD;
        }
        queue.size = 0;
        int minute = 0;
        for (int k = 0; k < n; k++) {
            long x = 7919L * z + 6151L * k + 1;
            int draw = (int) (x * x % 65521);
            minute += k == 0 ? 0 : draw / 64 % 5;
            int from = restOf(draw, laid.places);
            queue.insert(restOf(draw / 8, laid.sorts), minute, minute + laid.minutesBetween(from, p));
        }
        row.empty();
        // all of them: 98 times 4 minutes and the longest way end far below
        row.hearTo(queue, LAST_MINUTE);
        return row.size;
    }

    public int keep() {
        if (keptSize >= MOST_KEPT) {
            return FULL;
        }
        kept[keptSize].copyFrom(beats);
        keptSize++;
        return keptSize;
    }

    public int back() {
        if (keptSize < 1) {
            return NO;
        }
        keptSize--;
        beats.copyFrom(kept[keptSize]);
        steps.size = 0;
        return keptSize;
    }

    public int count(int what) {
        switch (what) {
            case 0: return laid.places;
            case 1: return laid.sorts;
            case 2: return laid.book.size;
            case 3: return beats.size;
            case 4: return beats.now;
            case 5: return told.size;
            case 6: return secrets.size;
            case 7: return steps.size;
            case 8: return keptSize;
            case 9: return text.size;
            default: return BAD;
        }
    }

    // ---- what several calls need

    private static boolean isMinute(int t) {
        return t >= 0 && t <= LAST_MINUTE;
    }

    private void standAt(int place, int minute) {
        queue.fillFrom(beats, laid, place);
        row.empty();
        row.hearTo(queue, minute);
    }

    /** Behind standAt of that place, whose queue it hears again. */
    private boolean goesBy(int place, int from, int sort, int mark) {
        int heard = beats.now + laid.minutesBetween(from, place);
        later.empty();
        later.hearTo(queue, heard);
        if (!later.holdsMark(mark)) {
            return false;
        }
        later.hear(sort, heard, THOUGHT_OF);
        return !later.holdsMark(mark);
    }

    private boolean goesBySome(int place, int sort, int mark) {
        for (int from = 0; from < laid.places; from++) {
            if (goesBy(place, from, sort, mark)) {
                return true;
            }
        }
        return false;
    }

    private static int restOf(int number, int divisor) {
        return divisor > 0 ? number % divisor : 0;
    }

    private static int commonDivisor(int a, int b) {
        int larger = a;
        int smaller = b;
        for (int i = 0; i < 64 && smaller != 0; i++) {
            int rest = larger % smaller;
            larger = smaller;
            smaller = rest;
        }
        return larger;
    }

    /** THE TEXT. */
    private static final class Text {
        final byte[] bytes = new byte[MOST_BYTES];
        int size;

        boolean append(int n, long v) {
            if (size + n > MOST_BYTES) {
                return false;
            }
            for (int i = n - 1; i >= 0; i--) {
                bytes[size] = (byte) (v >>> (8 * i));
                size++;
            }
            return true;
        }
    }

    /** Reads THE TEXT into hills of its own, which hold if there is no fault. */
    private static final class Reader {
        final Hills hills = new Hills();
        private final Text text;
        private final int[] number = new int[3];
        private final SortRow draft = new SortRow(MOST_WORD_SORTS);
        private int at;

        Reader(Text text) {
            this.text = text;
        }

        int firstFault() {
            hills.clear();
            at = 0;
            for (int items = 0; items < MOST_BYTES && at < text.size; items++) {
                int start = at;
                if (!readsItem()) {
                    return start;
                }
            }
            return NONE;
        }

        private boolean readsItem() {
            if (at >= text.size) {
                return false;
            }
            int letter = text.bytes[at];
            at++;
            switch (letter) {
                case 'p': return readsNumbers(1) && hills.setPlaces(number[0]);
                case 'x': return readsNumbers(3) && hills.setMinutes(number[0], number[1], number[2]);
                case 'h': return readsNumbers(1) && hills.setHour(number[0]);
                case 'l': return readsNumbers(1) && hills.setLaw(number[0]);
                case 'f': return readsNumbers(1) && hills.setSorts(number[0]);
                case 'w': return readsWord() && hills.book.append(draft);
                default: return false;
            }
        }

        private boolean readsNumbers(int howMany) {
            for (int i = 0; i < howMany && i < number.length; i++) {
                int value = takeFigure(10);
                if (value < 0) {
                    return false;
                }
                int second = takeFigure(10);
                number[i] = second < 0 ? value : 10 * value + second;
                if (!takesSign(i == howMany - 1 ? ';' : ',')) {
                    return false;
                }
            }
            return true;
        }

        private boolean readsWord() {
            draft.size = 0;
            for (int k = 0; k < MOST_WORD_SORTS; k++) {
                int sort = takeFigure(MOST_SORTS);
                if (sort < 0) {
                    break;
                }
                draft.append(sort);
            }
            return draft.size > 0 && takesSign(';');
        }

        /** A figure below the bound, or -1: then nothing is taken. */
        private int takeFigure(int bound) {
            if (at >= text.size) {
                return -1;
            }
            int figure = text.bytes[at] - '0';
            if (figure < 0 || figure >= bound) {
                return -1;
            }
            at++;
            return figure;
        }

        private boolean takesSign(char sign) {
            if (at >= text.size || text.bytes[at] != sign) {
                return false;
            }
            at++;
            return true;
        }
    }

    /** What a text tells: places, delays, hour, law, sorts and the book. */
    private static final class Hills {
        final Book book = new Book();
        int places;
        int sorts;
        int hour;
        int law;
        /** Only for reading on: places are told ahead of any x. */
        private boolean minutesTold;
        private final int[] minutes = new int[MOST_PLACES * MOST_PLACES];

        Hills() {
            clear();
        }

        void clear() {
            book.size = 0;
            places = 2;
            sorts = MOST_SORTS;
            hour = 20;
            law = 0;
            minutesTold = false;
            for (int a = 0; a < MOST_PLACES; a++) {
                for (int b = 0; b < MOST_PLACES; b++) {
                    minutes[a * MOST_PLACES + b] = a == b ? 0 : 3;
                }
            }
        }

        void copyFrom(Hills other) {
            book.copyFrom(other.book);
            places = other.places;
            sorts = other.sorts;
            hour = other.hour;
            law = other.law;
            for (int i = 0; i < minutes.length; i++) {
                minutes[i] = other.minutes[i];
            }
        }

        boolean isPlace(int p) {
            return p >= 0 && p < places;
        }

        boolean isSort(int s) {
            return s >= 0 && s < sorts;
        }

        int minutesBetween(int a, int b) {
            return isPlace(a) && isPlace(b) ? minutes[a * MOST_PLACES + b] : 0;
        }

        boolean setPlaces(int n) {
            if (n < 1 || n > MOST_PLACES || minutesTold) {
                return false;
            }
            places = n;
            return true;
        }

        boolean setMinutes(int a, int b, int d) {
            if (!isPlace(a) || !isPlace(b) || a == b || d < 0 || d > MOST_DELAY) {
                return false;
            }
            minutes[a * MOST_PLACES + b] = d;
            minutes[b * MOST_PLACES + a] = d;
            minutesTold = true;
            return true;
        }

        boolean setHour(int h) {
            if (h < 1 || h > MOST_HOUR) {
                return false;
            }
            hour = h;
            return true;
        }

        boolean setLaw(int l) {
            if (l < 0 || l > THRICE) {
                return false;
            }
            law = l;
            return true;
        }

        boolean setSorts(int f) {
            if (f < 2 || f > MOST_SORTS) {
                return false;
            }
            sorts = f;
            return true;
        }
    }

    /** The words, by their numbers. */
    private static final class Book {
        final SortRow[] words = new SortRow[MOST_WORDS];
        int size;

        Book() {
            for (int w = 0; w < MOST_WORDS; w++) {
                words[w] = new SortRow(MOST_WORD_SORTS);
            }
        }

        boolean isWord(int w) {
            return w >= 0 && w < size;
        }

        void copyFrom(Book other) {
            size = other.size;
            for (int w = 0; w < size; w++) {
                words[w].copyFrom(other.words[w]);
            }
        }

        /** False if the book is full or has that word. */
        boolean append(SortRow word) {
            if (size >= MOST_WORDS) {
                return false;
            }
            for (int w = 0; w < size; w++) {
                if (words[w].sameAs(word)) {
                    return false;
                }
            }
            words[size].copyFrom(word);
            size++;
            return true;
        }

        /** The i-th word read in the first sorts of a row. */
        int wordRead(Row row, int end, int i) {
            int read = 0;
            int step = 1;
            for (int at = 0; at < end; at += step) {
                int w = longestAt(row, at, end);
                step = 1;
                if (w >= 0) {
                    if (read == i) {
                        return w;
                    }
                    read++;
                    step = Math.max(1, words[w].size);
                }
            }
            return NONE;
        }

        private int longestAt(Row row, int at, int end) {
            int best = -1;
            int length = 0;
            for (int w = 0; w < size; w++) {
                if (words[w].size > length && row.holdsAt(words[w], at, end)) {
                    best = w;
                    length = words[w].size;
                }
            }
            return best;
        }

        int howManySpoiled() {
            int found = 0;
            for (int i = 0; i < size; i++) {
                for (int j = i + 1; j < size; j++) {
                    if (areSpoiled(i, j)) {
                        found++;
                    }
                }
            }
            return found;
        }

        int firstSpoiled() {
            for (int i = 0; i < size; i++) {
                for (int j = i + 1; j < size; j++) {
                    if (areSpoiled(i, j)) {
                        return 10 * i + j;
                    }
                }
            }
            return NONE;
        }

        private boolean areSpoiled(int i, int j) {
            return words[i].isLessOne(words[j]) || words[j].isLessOne(words[i]);
        }
    }

    /** A row of sorts: a word, or a told row. */
    private static final class SortRow {
        final int[] sort;
        int size;

        SortRow(int most) {
            sort = new int[most];
        }

        boolean append(int s) {
            if (size >= sort.length) {
                return false;
            }
            sort[size] = s;
            size++;
            return true;
        }

        void copyFrom(SortRow other) {
            size = Math.min(other.size, sort.length);
            for (int k = 0; k < size; k++) {
                sort[k] = other.sort[k];
            }
        }

        boolean sameAs(SortRow other) {
            if (size != other.size) {
                return false;
            }
            for (int k = 0; k < size; k++) {
                if (sort[k] != other.sort[k]) {
                    return false;
                }
            }
            return true;
        }

        /** Whether this is the other one with one sort left out: the first that differs must be it. */
        boolean isLessOne(SortRow other) {
            if (size + 1 != other.size) {
                return false;
            }
            int same = 0;
            while (same < size && sort[same] == other.sort[same]) {
                same++;
            }
            for (int k = same; k < size; k++) {
                if (sort[k] != other.sort[k + 1]) {
                    return false;
                }
            }
            return true;
        }
    }

    /** The beats drummed, in their order, and the minute. */
    private static final class Beats {
        final int[] place = new int[MOST_BEATS];
        final int[] sort = new int[MOST_BEATS];
        final int[] minute = new int[MOST_BEATS];
        int size;
        int now;

        boolean isBeat(int i) {
            return i >= 0 && i < size;
        }

        boolean append(int p, int s) {
            if (size >= MOST_BEATS) {
                return false;
            }
            place[size] = p;
            sort[size] = s;
            minute[size] = now;
            size++;
            return true;
        }

        void dropLatest() {
            if (size > 0) {
                size--;
            }
        }

        void copyFrom(Beats other) {
            size = other.size;
            now = other.now;
            for (int i = 0; i < size; i++) {
                place[i] = other.place[i];
                sort[i] = other.sort[i];
                minute[i] = other.minute[i];
            }
        }
    }

    /** The last steps that can be undone: a beat, or minutes gone by. */
    private static final class Steps {
        static final int DRUMMED = 0;
        private final int[] step = new int[MOST_UNDONE];
        int size;

        void append(int what) {
            if (size >= MOST_UNDONE) {
                System.arraycopy(step, 1, step, 0, MOST_UNDONE - 1);
                size = MOST_UNDONE - 1;
            }
            step[size] = what;
            size++;
        }

        int takeLatest() {
            if (size < 1) {
                return DRUMMED;
            }
            size--;
            return step[size];
        }
    }

    /** What is heard at one place, in the order of hearing. */
    private static final class Queue {
        final int[] sort;
        final int[] drummed;
        final int[] heard;
        int size;

        Queue(int most) {
            sort = new int[most];
            drummed = new int[most];
            heard = new int[most];
        }

        void fillFrom(Beats beats, Hills hills, int place) {
            size = 0;
            for (int i = 0; i < beats.size; i++) {
                int minute = beats.minute[i];
                insert(beats.sort[i], minute, minute + hills.minutesBetween(beats.place[i], place));
            }
        }

        /** Called in the order of drumming, which orders those of one minute. */
        void insert(int s, int drummedAt, int heardAt) {
            if (size >= heard.length) {
                return;
            }
            int i = size;
            while (i > 0 && heard[i - 1] > heardAt) {
                sort[i] = sort[i - 1];
                drummed[i] = drummed[i - 1];
                heard[i] = heard[i - 1];
                i--;
            }
            sort[i] = s;
            drummed[i] = drummedAt;
            heard[i] = heardAt;
            size++;
        }

        /** Whether the i-th is heard ahead of a beat that would be the last drummed in its minute. */
        boolean isAhead(int i, int drummedAt, int heardAt) {
            return heard[i] < heardAt || heard[i] == heardAt && drummed[i] <= drummedAt;
        }
    }

    /** What stands at a place; a mark tells one beat from another of its sort. */
    private static final class Row {
        final int[] sort;
        final int[] mark;
        int size;
        private final int[] heard;
        private final Hills hills;
        /** The first of the queue that has not been heard. */
        private int next;

        Row(Hills hills, int most) {
            this.hills = hills;
            sort = new int[most];
            mark = new int[most];
            heard = new int[most];
        }

        void empty() {
            size = 0;
            next = 0;
        }

        void copyFrom(Row other) {
            size = Math.min(other.size, sort.length);
            next = other.next;
            for (int k = 0; k < size; k++) {
                sort[k] = other.sort[k];
                mark[k] = other.mark[k];
                heard[k] = other.heard[k];
            }
        }

        void hearTo(Queue queue, int minute) {
            for (; next < queue.size && queue.heard[next] <= minute; next++) {
                hear(queue.sort[next], queue.heard[next], next);
            }
        }

        void hearAhead(Queue queue, int drummedAt, int heardAt) {
            for (; next < queue.size && queue.isAhead(next, drummedAt, heardAt); next++) {
                hear(queue.sort[next], queue.heard[next], next);
            }
        }

        void hear(int s, int minute, int itsMark) {
            int unsaid = unsaidBy(s, minute);
            if (unsaid >= 0) {
                takeOut(unsaid);
            } else if (size < sort.length) {
                sort[size] = s;
                mark[size] = itsMark;
                heard[size] = minute;
                size++;
            }
        }

        boolean wouldCome(int s, int minute) {
            return unsaidBy(s, minute) < 0;
        }

        /** Which one goes, -1 for none; those further left were heard no later, so the hour ends the look. */
        private int unsaidBy(int s, int minute) {
            int wanted = hills.law == THRICE ? 2 : 1;
            int found = 0;
            int latest = -1;
            for (int k = size - 1; k >= 0 && minute - heard[k] < hills.hour; k--) {
                if (sort[k] == s) {
                    found++;
                    latest = found == 1 ? k : latest;
                    if (found == wanted) {
                        return latest;
                    }
                }
            }
            return -1;
        }

        private void takeOut(int k) {
            if (hills.law == SINCE) {
                size = k;
                return;
            }
            for (int i = k; i < size - 1; i++) {
                sort[i] = sort[i + 1];
                mark[i] = mark[i + 1];
                heard[i] = heard[i + 1];
            }
            size--;
        }

        int howManySaid(int minute) {
            int said = 0;
            while (said < size && minute - heard[said] >= hills.hour) {
                said++;
            }
            return said;
        }

        boolean holdsMark(int wanted) {
            for (int k = 0; k < size; k++) {
                if (mark[k] == wanted) {
                    return true;
                }
            }
            return false;
        }

        boolean holdsSort(int wanted) {
            for (int k = 0; k < size; k++) {
                if (sort[k] == wanted) {
                    return true;
                }
            }
            return false;
        }

        /** Whether these sorts are the next ones from a place on, ahead of an end. */
        boolean holdsAt(SortRow sorts, int at, int end) {
            if (at < 0 || end > size || at + sorts.size > end) {
                return false;
            }
            for (int k = 0; k < sorts.size; k++) {
                if (sort[at + k] != sorts.sort[k]) {
                    return false;
                }
            }
            return true;
        }

        boolean isJust(SortRow sorts) {
            return size == sorts.size && holdsAt(sorts, 0, size);
        }
    }

    /** Beats tried at a place, the first now, each next one a minute later. */
    private static final class Trials {
        private final Hills hills;
        private final Beats beats;
        private final SortRow told;
        private final Queue queue = new Queue(MOST_BEATS);
        private final Row[] rows = new Row[MOST_TRIED + 1];

        Trials(Hills hills, Beats beats, SortRow told) {
            this.hills = hills;
            this.beats = beats;
            this.told = told;
            for (int i = 0; i <= MOST_TRIED; i++) {
                rows[i] = new Row(hills, MOST_BEATS + MOST_TRIED);
            }
        }

        /** By how many rows of n sorts what is wanted stands: a sort, or TOLD_ROW. */
        int countWays(int place, int n, int wanted) {
            queue.fillFrom(beats, hills, place);
            rows[0].empty();
            rows[0].hearTo(queue, beats.now);
            return waysFrom(0, n, wanted);
        }

        private int waysFrom(int tried, int n, int wanted) {
            if (tried < 0 || tried > MOST_TRIED) {
                return 0;
            }
            Row before = rows[tried];
            if (tried >= n || tried == MOST_TRIED) {
                return isReached(before, wanted) ? 1 : 0;
            }
            int minute = beats.now + tried;
            before.hearTo(queue, minute);
            Row after = rows[tried + 1];
            int ways = 0;
            for (int s = 0; s < hills.sorts; s++) {
                after.copyFrom(before);
                after.hear(s, minute, THOUGHT_OF);
                ways += waysFrom(tried + 1, n, wanted);
            }
            return ways;
        }

        private boolean isReached(Row row, int wanted) {
            return wanted == TOLD_ROW ? row.isJust(told) : row.holdsSort(wanted);
        }
    }

    /** What is told of some places, and the one beat more that makes it so. */
    private static final class Secrets {
        int size;
        int found;
        int first;
        private final Hills hills;
        private final Beats beats;
        private final int[] place = new int[MOST_SECRETS];
        private final SortRow[] rows = new SortRow[MOST_SECRETS];
        private final Queue[] queues = new Queue[MOST_SECRETS];
        private final Row trial;

        Secrets(Hills hills, Beats beats) {
            this.hills = hills;
            this.beats = beats;
            trial = new Row(hills, MOST_BEATS + 1);
            for (int i = 0; i < MOST_SECRETS; i++) {
                rows[i] = new SortRow(MOST_TOLD_SORTS);
                queues[i] = new Queue(MOST_BEATS);
            }
        }

        boolean isTold(int p) {
            for (int i = 0; i < size; i++) {
                if (place[i] == p) {
                    return true;
                }
            }
            return false;
        }

        boolean append(int p, SortRow told) {
            if (size >= MOST_SECRETS) {
                return false;
            }
            place[size] = p;
            rows[size].copyFrom(told);
            size++;
            return true;
        }

        void search() {
            for (int i = 0; i < size; i++) {
                queues[i].fillFrom(beats, hills, place[i]);
            }
            found = 0;
            first = NONE;
            int earliest = Math.max(0, beats.now - SECRET_MINUTES + 1);
            for (int p = 0; p < hills.places; p++) {
                for (int s = 0; s < hills.sorts; s++) {
                    for (int minute = earliest; minute <= beats.now; minute++) {
                        if (isAllSoBy(p, s, minute)) {
                            first = found == 0 ? 100000 * p + 10000 * s + minute : first;
                            found++;
                        }
                    }
                }
            }
        }

        private boolean isAllSoBy(int p, int s, int minute) {
            for (int i = 0; i < size; i++) {
                if (!isSoBy(i, s, minute, minute + hills.minutesBetween(p, place[i]))) {
                    return false;
                }
            }
            return true;
        }

        private boolean isSoBy(int i, int s, int drummedAt, int heardAt) {
            trial.empty();
            if (heardAt <= beats.now) {
                trial.hearAhead(queues[i], drummedAt, heardAt);
                trial.hear(s, heardAt, THOUGHT_OF);
            }
            trial.hearTo(queues[i], beats.now);
            return trial.isJust(rows[i]);
        }
    }
}
