/**
 * Cords across a board: lines, their holes, and the calls that fall, wait, talk and end.
 *
 * <p>All rows are made once, with the object, and used again: no call makes an object.
 */
public final class BoardCords {
    public static final int BAD = -1, STATE = -2, FULL = -3, NONE = -9;
    public static final int NO = -1000000;

    private static final int MOST_LINES = 6;
    private static final int MOST_CORDS = 4;
    private static final int MOST_CALLS = 7;
    private static final int ALL_CALLS = 127;
    private static final int MOST_LETTERS = 200;
    private static final int LAST_FALL = 40;
    private static final int LAST_MINUTE = 99;
    private static final int LONGEST = 20;
    private static final int HIGHEST_RANK = 9;

    private static final int TO_COME = 0;
    private static final int WAITS = 1;
    private static final int TALKS = 2;
    private static final int DONE = 3;
    private static final int CUT_OFF = 4;

    private static final int BY_FALL = 0;
    private static final int BY_RANK = 1;
    private static final int BY_LENGTH = 2;
    private static final int DAY_MINUTES = 60;
    private static final int ROW_MINUTES = 30;
    private static final int NOT_SO_MANY = -5;

    private static final int ABOVE_ALL_SUMS = 1000000;

    private static final int IMAGES = 2;
    private static final int ALL_OF_TEN = 10;
    private static final int ODDS_MINUTES = 40;

    private final int[] text = new int[MOST_LETTERS];
    private final Told told = new Told();
    private final Reader reader = new Reader(text);
    private final Moment present = new Moment(told);
    private final Past past = new Past();
    private final int[] images = new int[IMAGES * Moment.CELLS];
    private final boolean[] kept = new boolean[IMAGES];
    private final Day day = new Day(told);
    private final RowSearch rows = new RowSearch(told);
    private final HoleSearch holes = new HoleSearch(told);
    private int letters = 0;
    private long traced = 0;

    public BoardCords() {
        present.begin();
    }

    // ---- the board

    public int type(int letter) {
        if (letter < 0 || letter > 255) {
            return BAD;
        }
        if (letters >= MOST_LETTERS) {
            return FULL;
        }
        text[letters] = letter;
        letters++;
        return letters;
    }

    public int clear() {
        int had = letters;
        letters = 0;
        return had;
    }

    public int board() {
        int items = reader.read(letters);
        if (items < 0) {
            return items;
        }
        told.become(reader.draft);
        present.begin();
        past.forget();
        for (int i = 0; i < IMAGES; i++) {
            kept[i] = false;
        }
        letters = 0;
        return items;
    }

    public int line(int l, int what) {
        if (!told.hasLine(l) || what < 0 || what > 1) {
            return BAD;
        }
        return what == 0 ? present.hole[l] : present.engagedBy(l);
    }

    public int call(int c, int what) {
        if (!told.hasCall(c)) {
            return BAD;
        }
        switch (what) {
            case 0: return told.fall[c];
            case 1: return told.from[c];
            case 2: return told.to[c];
            case 3: return told.length[c];
            case 4: return told.rank[c];
            case 5: return present.how[c];
            case 6: return present.left[c];
            case 7: return present.waited[c];
            default: return BAD;
        }
    }

    public int now(int what) {
        switch (what) {
            case 0: return present.minute;
            case 1: return present.those(WAITS);
            case 2: return present.those(TALKS);
            case 3: return freeCords();
            case 4: return present.crossings();
            case 5: return past.known;
            default: return BAD;
        }
    }

    private int freeCords() {
        return told.cords - Integer.bitCount(present.those(TALKS));
    }

    // ---- what is done

    public int minute() {
        if (present.minute >= LAST_MINUTE) {
            return STATE;
        }
        past.add(present);
        present.passMinute();
        return present.minute;
    }

    public int plugs(int c) {
        if (!told.hasCall(c)) {
            return BAD;
        }
        if (!present.canBePlugged(c, told.cords)) {
            return STATE;
        }
        past.add(present);
        present.plug(c);
        return freeCords();
    }

    public int pulls(int c) {
        if (!told.hasCall(c)) {
            return BAD;
        }
        if (present.how[c] != TALKS) {
            return STATE;
        }
        int wasLeft = present.left[c];
        past.add(present);
        present.pull(c);
        return wasLeft;
    }

    public int swaps(int a, int b) {
        if (!told.hasLine(a) || !told.hasLine(b) || a == b) {
            return BAD;
        }
        if (present.engagedBy(a) != NONE || present.engagedBy(b) != NONE) {
            return STATE;
        }
        past.add(present);
        exchange(present.hole, a, b);
        return present.hole[a];
    }

    public int undo() {
        if (past.known == 0) {
            return STATE;
        }
        past.takeBack(present);
        return past.known;
    }

    // ---- a day by rules

    public int byRule(int rule, int n, int what) {
        if (!isRule(rule) || n < 0 || n > DAY_MINUTES || what < 0 || what > 2) {
            return BAD;
        }
        day.go(present, rule, n, told.cords);
        switch (what) {
            case 0: return Integer.bitCount(day.trial.those(DONE));
            case 1: return day.trial.waitedOf(ALL_CALLS);
            default: return day.firstDone;
        }
    }

    public int enough(int rule) {
        if (!isRule(rule)) {
            return BAD;
        }
        for (int cords = 1; cords <= MOST_CORDS; cords++) {
            day.go(present, rule, DAY_MINUTES, cords);
            if (!day.lacksCord) {
                return cords;
            }
        }
        return NONE;
    }

    private static boolean isRule(int rule) {
        return rule >= BY_FALL && rule <= BY_LENGTH;
    }

    public int bestRow(int k) {
        if (k < -1) {
            return BAD;
        }
        rows.find(present);
        if (k == -1) {
            return rows.least + present.waitedOf(present.those(WAITS));
        }
        return k < rows.size ? rows.best[k] : NOT_SO_MANY;
    }

    public int cutFor(int c) {
        if (!told.hasCall(c)) {
            return BAD;
        }
        if (present.how[c] != WAITS) {
            return STATE;
        }
        return present.leastCut(c);
    }

    // ---- holes

    public int longCords() {
        return holes.inAll(present.hole);
    }

    public int change() {
        return holes.bestExchange(present.hole);
    }

    public int bestHoles(int l) {
        if (l != -1 && !told.hasLine(l)) {
            return BAD;
        }
        holes.find();
        return l == -1 ? holes.least : holes.best[l];
    }

    public int atOnce(int what) {
        if (what < 0 || what > 1) {
            return BAD;
        }
        int bestMinute = 0;
        int most = 0;
        for (int m = 0; m <= LAST_FALL; m++) {
            int falling = told.fallingAt(m);
            if (falling > most) {
                most = falling;
                bestMinute = m;
            }
        }
        return what == 0 ? bestMinute : most;
    }

    public int under(int c) {
        if (!told.hasCall(c)) {
            return BAD;
        }
        return present.crossedBy(c);
    }

    public int odds(int l, int p, int m, int what) {
        if (!told.hasLine(l) || p < 0 || p > ALL_OF_TEN || m < 0 || m > ODDS_MINUTES
                || what < 0 || what > 1) {
            return BAD;
        }
        int upper = tenthsFree(present.engagedBy(l), p, m);
        int divisor = commonDivisor(upper);
        return (what == 0 ? upper : ALL_OF_TEN) / divisor;
    }

    /** By how many of ten the line that this call engages is free m minutes from now. */
    private int tenthsFree(int c, int p, int m) {
        if (!told.hasCall(c) || m >= 2 * present.left[c]) {
            return ALL_OF_TEN;
        }
        return m >= present.left[c] ? ALL_OF_TEN - p : 0;
    }

    /** The greatest number that divides both this one and ten. */
    private static int commonDivisor(int upper) {
        for (int d = ALL_OF_TEN; d > 1; d--) {
            if (upper % d == 0 && ALL_OF_TEN % d == 0) {
                return d;
            }
        }
        return 1;
    }

    // ---- kinds, images

    public int rate(int kind, int c) {
        if (!told.hasCall(c)) {
            return NO;
        }
        switch (kind) {
            case 0: return asCall(c);
            case 1: return asDoctor(c);
            case 2: return asGossip(c);
            case 3: return asFire(c);
            case 4: return asWife(c);
            case 5: return asWrong(c);
            default: return NO;
        }
    }

    private int asCall(int c) {
        traced += 1;
        return told.rank[c];
    }

    private int asDoctor(int c) {
        traced += 10;
        return asCall(c) + present.waited[c];
    }

    private int asGossip(int c) {
        traced += 100;
        return asCall(c) - told.length[c];
    }

    private int asFire(int c) {
        traced += 1000;
        return 2 * asDoctor(c);
    }

    private int asWife(int c) {
        traced += 10000;
        return asGossip(c) + c;
    }

    private int asWrong(int c) {
        traced += 100000;
        return asCall(c) + told.apart(c, present.hole);
    }

    public int keep(int image) {
        if (!isImage(image)) {
            return BAD;
        }
        present.save(images, image * Moment.CELLS);
        kept[image] = true;
        return present.minute;
    }

    public int back(int image) {
        if (!isImage(image)) {
            return BAD;
        }
        if (!kept[image]) {
            return STATE;
        }
        present.load(images, image * Moment.CELLS);
        past.forget();
        return present.minute;
    }

    private static boolean isImage(int image) {
        return image >= 0 && image < IMAGES;
    }

    public int count(int what) {
        switch (what) {
            case 0: return told.lines;
            case 1: return told.cords;
            case 2: return told.calls;
            case 3: return letters;
            default: return BAD;
        }
    }

    public long trace() {
        return traced;
    }

    private static void exchange(int[] row, int a, int b) {
        int first = row[a];
        row[a] = row[b];
        row[b] = first;
    }

    /** Makes the row the next one by numbers; false, if it was the last. */
    private static boolean nextRow(int[] row, int size) {
        int place = size - 2;
        while (place >= 0 && row[place] > row[place + 1]) {
            place--;
        }
        if (place < 0) {
            return false;
        }
        int above = size - 1;
        while (above > place && row[above] < row[place]) {
            above--;
        }
        exchange(row, place, above);
        for (int i = place + 1, j = size - 1; i < j; i++, j--) {
            exchange(row, i, j);
        }
        return true;
    }

    /** What a text tells; only another text changes it. */
    private static final class Told {
        int lines;
        int cords;
        int calls;
        final int[] hole = new int[MOST_LINES];
        final int[] fall = new int[MOST_CALLS];
        final int[] from = new int[MOST_CALLS];
        final int[] to = new int[MOST_CALLS];
        final int[] length = new int[MOST_CALLS];
        final int[] rank = new int[MOST_CALLS];

        Told() {
            asAtFirst();
        }

        void asAtFirst() {
            lines = 2;
            cords = 1;
            calls = 0;
            for (int l = 0; l < MOST_LINES; l++) {
                hole[l] = l;
            }
        }

        boolean hasLine(int l) {
            return l >= 0 && l < lines;
        }

        boolean hasCall(int c) {
            return c >= 0 && c < calls;
        }

        /** Who had the hole has that of the line instead. */
        void giveHole(int l, int h) {
            for (int other = 0; other < lines; other++) {
                if (hole[other] == h) {
                    hole[other] = hole[l];
                }
            }
            hole[l] = h;
        }

        boolean shareLine(int a, int b) {
            return from[a] == from[b] || from[a] == to[b] || to[a] == from[b] || to[a] == to[b];
        }

        int fallingAt(int minute) {
            int falling = 0;
            for (int c = 0; c < calls; c++) {
                if (fall[c] == minute) {
                    falling++;
                }
            }
            return falling;
        }

        /** How far the holes of a call's lines are from one another, the lines having these. */
        int apart(int c, int[] holeOf) {
            return Math.abs(holeOf[from[c]] - holeOf[to[c]]);
        }

        void become(Told other) {
            lines = other.lines;
            cords = other.cords;
            calls = other.calls;
            System.arraycopy(other.hole, 0, hole, 0, MOST_LINES);
            System.arraycopy(other.fall, 0, fall, 0, MOST_CALLS);
            System.arraycopy(other.from, 0, from, 0, MOST_CALLS);
            System.arraycopy(other.to, 0, to, 0, MOST_CALLS);
            System.arraycopy(other.length, 0, length, 0, MOST_CALLS);
            System.arraycopy(other.rank, 0, rank, 0, MOST_CALLS);
        }
    }

    /** Reads a text into a draft; behind the first fault nothing more is read. */
    private static final class Reader {
        private static final int NO_FAULT = -1;
        private static final int BLANK = 32;
        private static final int FAULT_BASE = -10;

        final Told draft = new Told();
        private final int[] text;
        private int length;
        private int place;
        private int fault;
        private int items;
        private boolean cordsTold;

        Reader(int[] text) {
            this.text = text;
        }

        /** How many items there are, or -10 less the place of the fault. */
        int read(int letters) {
            length = Math.min(letters, text.length);
            place = 0;
            fault = NO_FAULT;
            items = 0;
            cordsTold = false;
            draft.asAtFirst();
            skipBlanks();
            for (int i = 0; i < MOST_LETTERS && place < length && fault == NO_FAULT; i++) {
                readItem();
                items++;
                skipBlanks();
            }
            return fault == NO_FAULT ? items : FAULT_BASE - fault;
        }

        private void readItem() {
            int start = place;
            int letter = letterHere();
            place++;
            if (letter == 'l' && items == 0) {
                readLines();
            } else if (letter == 'x' && !cordsTold) {
                readCords();
            } else if (letter == 'h') {
                readHole();
            } else if (letter == 'c' && draft.calls < MOST_CALLS) {
                readCall();
            } else {
                failAt(start);
            }
            readEnd();
        }

        private void readLines() {
            draft.lines = readNumber(2, MOST_LINES, NONE);
        }

        private void readCords() {
            draft.cords = readNumber(1, MOST_CORDS, NONE);
            cordsTold = true;
        }

        private void readHole() {
            int l = readNumber(0, draft.lines - 1, NONE);
            int h = readNumber(0, draft.lines - 1, NONE);
            if (fault == NO_FAULT) {
                draft.giveHole(l, h);
            }
        }

        private void readCall() {
            int c = draft.calls;
            draft.fall[c] = readNumber(0, LAST_FALL, NONE);
            draft.from[c] = readNumber(0, draft.lines - 1, NONE);
            draft.to[c] = readNumber(0, draft.lines - 1, draft.from[c]);
            draft.length[c] = readNumber(1, LONGEST, NONE);
            draft.rank[c] = readNumber(0, HIGHEST_RANK, NONE);
            draft.calls = c + 1;
        }

        /** A number from least to most, but not that one; the least of all, if there is a fault. */
        private int readNumber(int least, int most, int unlike) {
            skipBlanks();
            if (fault != NO_FAULT) {
                return least;
            }
            int start = place;
            int first = letterHere();
            int value = 0;
            while (place < length && isDigit(letterHere())) {
                // 100 stands for all that is above 99, however many digits it has
                value = Math.min(100, 10 * value + letterHere() - '0');
                place++;
            }
            boolean zeroAhead = first == '0' && place - start > 1;
            if (place == start || zeroAhead || value < least || value > most || value == unlike) {
                failAt(start);
                return least;
            }
            return value;
        }

        private void readEnd() {
            skipBlanks();
            if (letterHere() != ';') {
                failAt(place);
            }
            place++;
        }

        private void skipBlanks() {
            while (place < length && text[place] == BLANK) {
                place++;
            }
        }

        /** NONE behind the end, which is no letter. */
        private int letterHere() {
            return place >= 0 && place < length ? text[place] : NONE;
        }

        private static boolean isDigit(int letter) {
            return letter >= '0' && letter <= '9';
        }

        private void failAt(int where) {
            if (fault == NO_FAULT) {
                fault = where;
            }
        }
    }

    /** The minute, how the calls are, and the holes. */
    private static final class Moment {
        static final int CELLS = 1 + MOST_LINES + 3 * MOST_CALLS;

        private final Told told;
        int minute;
        final int[] hole = new int[MOST_LINES];
        final int[] how = new int[MOST_CALLS];
        final int[] left = new int[MOST_CALLS];
        final int[] waited = new int[MOST_CALLS];

        Moment(Told told) {
            this.told = told;
        }

        void begin() {
            minute = 0;
            System.arraycopy(told.hole, 0, hole, 0, MOST_LINES);
            for (int c = 0; c < MOST_CALLS; c++) {
                how[c] = TO_COME;
                left[c] = 0;
                waited[c] = 0;
            }
            letFall();
        }

        private void letFall() {
            for (int c = 0; c < told.calls; c++) {
                if (how[c] == TO_COME && told.fall[c] == minute) {
                    how[c] = WAITS;
                }
            }
        }

        /** The calls that are so, as bits. */
        int those(int state) {
            int bits = 0;
            for (int c = 0; c < told.calls; c++) {
                if (how[c] == state) {
                    bits |= 1 << c;
                }
            }
            return bits;
        }

        int engagedBy(int l) {
            for (int c = 0; c < told.calls; c++) {
                if (how[c] == TALKS && (told.from[c] == l || told.to[c] == l)) {
                    return c;
                }
            }
            return NONE;
        }

        /** Whether both lines of the call are free, if these talk. */
        private boolean linesFree(int c, int talkers) {
            for (int other = 0; other < told.calls; other++) {
                if ((talkers >> other & 1) == 1 && told.shareLine(c, other)) {
                    return false;
                }
            }
            return true;
        }

        /** Whether there is a cord for the call and both its lines are free, if these talk. */
        private boolean hasRoom(int c, int talkers, int cords) {
            return Integer.bitCount(talkers) < cords && linesFree(c, talkers);
        }

        boolean canBePlugged(int c, int cords) {
            return how[c] == WAITS && hasRoom(c, those(TALKS), cords);
        }

        /** Whether somebody waits with both lines free and all cords taken. */
        boolean lacksCord(int cords) {
            int talkers = those(TALKS);
            if (Integer.bitCount(talkers) < cords) {
                return false;
            }
            for (int c = 0; c < told.calls; c++) {
                if (how[c] == WAITS && linesFree(c, talkers)) {
                    return true;
                }
            }
            return false;
        }

        void plug(int c) {
            how[c] = TALKS;
            left[c] = told.length[c];
        }

        void pull(int c) {
            how[c] = CUT_OFF;
            left[c] = 0;
        }

        void passMinute() {
            for (int c = 0; c < told.calls; c++) {
                if (how[c] == TALKS) {
                    left[c]--;
                    if (left[c] <= 0) {
                        how[c] = DONE;
                    }
                } else if (how[c] == WAITS) {
                    waited[c]++;
                }
            }
            minute++;
            letFall();
        }

        int waitedOf(int bits) {
            return sumOf(waited, bits);
        }

        private int leftOf(int bits) {
            return sumOf(left, bits);
        }

        private int sumOf(int[] minutes, int bits) {
            int sum = 0;
            for (int c = 0; c < told.calls; c++) {
                if ((bits >> c & 1) == 1) {
                    sum += minutes[c];
                }
            }
            return sum;
        }

        /** Sets come by rising bits, so that of those alike the first stays. */
        int leastCut(int c) {
            int talkers = those(TALKS);
            int best = talkers;
            for (int cut = 0; cut < talkers; cut++) {
                boolean allTalk = (cut & talkers) == cut;
                if (allTalk && hasRoom(c, talkers & ~cut, told.cords) && cutsLess(cut, best)) {
                    best = cut;
                }
            }
            return best;
        }

        private boolean cutsLess(int cut, int than) {
            int fewer = Integer.bitCount(than) - Integer.bitCount(cut);
            return fewer > 0 || fewer == 0 && leftOf(cut) < leftOf(than);
        }

        private boolean cross(int a, int b) {
            return !told.shareLine(a, b)
                    && isBetween(a, hole[told.from[b]]) != isBetween(a, hole[told.to[b]]);
        }

        private boolean isBetween(int c, int h) {
            int one = hole[told.from[c]];
            int other = hole[told.to[c]];
            return Math.min(one, other) < h && h < Math.max(one, other);
        }

        /** Those that talk whose cords that of the call crosses, as bits. */
        int crossedBy(int c) {
            int bits = 0;
            for (int other = 0; other < told.calls; other++) {
                if (how[other] == TALKS && cross(c, other)) {
                    bits |= 1 << other;
                }
            }
            return bits;
        }

        int crossings() {
            int twice = 0;
            for (int c = 0; c < told.calls; c++) {
                if (how[c] == TALKS) {
                    twice += Integer.bitCount(crossedBy(c));
                }
            }
            return twice / 2;
        }

        void save(int[] cells, int at) {
            cells[at] = minute;
            System.arraycopy(hole, 0, cells, at + 1, MOST_LINES);
            int calls = at + 1 + MOST_LINES;
            System.arraycopy(how, 0, cells, calls, MOST_CALLS);
            System.arraycopy(left, 0, cells, calls + MOST_CALLS, MOST_CALLS);
            System.arraycopy(waited, 0, cells, calls + 2 * MOST_CALLS, MOST_CALLS);
        }

        void load(int[] cells, int at) {
            minute = cells[at];
            System.arraycopy(cells, at + 1, hole, 0, MOST_LINES);
            int calls = at + 1 + MOST_LINES;
            System.arraycopy(cells, calls, how, 0, MOST_CALLS);
            System.arraycopy(cells, calls + MOST_CALLS, left, 0, MOST_CALLS);
            System.arraycopy(cells, calls + 2 * MOST_CALLS, waited, 0, MOST_CALLS);
        }

        void become(Moment other) {
            minute = other.minute;
            System.arraycopy(other.hole, 0, hole, 0, MOST_LINES);
            System.arraycopy(other.how, 0, how, 0, MOST_CALLS);
            System.arraycopy(other.left, 0, left, 0, MOST_CALLS);
            System.arraycopy(other.waited, 0, waited, 0, MOST_CALLS);
        }
    }

    /** The latest moments ahead of what was done, in a ring: the oldest one gives way. */
    private static final class Past {
        private static final int MOST = 10;

        private final int[] cells = new int[MOST * Moment.CELLS];
        private int next = 0;
        int known = 0;

        void add(Moment moment) {
            moment.save(cells, next * Moment.CELLS);
            next = (next + 1) % MOST;
            known = Math.min(MOST, known + 1);
        }

        void takeBack(Moment moment) {
            next = (next + MOST - 1) % MOST;
            known--;
            moment.load(cells, next * Moment.CELLS);
        }

        void forget() {
            known = 0;
        }
    }

    /** A day by a rule, gone through on a moment of its own. */
    private static final class Day {
        private final Told told;
        final Moment trial;
        private final int[] order = new int[MOST_CALLS];
        int firstDone = NONE;
        boolean lacksCord;

        Day(Told told) {
            this.told = told;
            trial = new Moment(told);
        }

        void go(Moment start, int rule, int minutes, int cords) {
            trial.become(start);
            sort(rule);
            firstDone = NONE;
            lacksCord = false;
            int doneAhead = start.those(DONE);
            for (int m = 0; m < minutes; m++) {
                plugAll(cords);
                lacksCord |= trial.lacksCord(cords);
                trial.passMinute();
                if (firstDone == NONE) {
                    firstDone = lowest(trial.those(DONE) & ~doneAhead);
                }
            }
        }

        /** Keeps those alike by number, as each goes behind all that are not after it. */
        private void sort(int rule) {
            for (int c = 0; c < told.calls; c++) {
                int place = c;
                while (place > 0 && key(c, rule) < key(order[place - 1], rule)) {
                    order[place] = order[place - 1];
                    place--;
                }
                order[place] = c;
            }
        }

        /** Who has the less of this is plugged first. */
        private int key(int c, int rule) {
            switch (rule) {
                case BY_FALL: return told.fall[c];
                case BY_RANK: return -told.rank[c];
                default: return told.length[c];
            }
        }

        private void plugAll(int cords) {
            for (int i = 0; i < told.calls; i++) {
                if (trial.canBePlugged(order[i], cords)) {
                    trial.plug(order[i]);
                }
            }
        }

        private static int lowest(int bits) {
            for (int c = 0; c < MOST_CALLS; c++) {
                if ((bits >> c & 1) == 1) {
                    return c;
                }
            }
            return NONE;
        }
    }

    /**
     * The best row of those who wait. There may be 5040 rows: so a row is not gone through minute
     * by minute, but from the end of one talk to the next, and left once it is no better.
     */
    private static final class RowSearch {
        private static final int MOST_ROWS = 5040;
        private static final int UNPLUGGED = 0;

        private final Told told;
        private final int[] row = new int[MOST_CALLS];
        final int[] best = new int[MOST_CALLS];
        int size;
        int least;
        private final int[] lineBits = new int[MOST_CALLS];
        private final int[] endAtFirst = new int[MOST_CALLS];
        private final int[] end = new int[MOST_CALLS];

        RowSearch(Told told) {
            this.told = told;
        }

        void find(Moment start) {
            prepare(start);
            least = ABOVE_ALL_SUMS;
            for (int tried = 0; tried < MOST_ROWS; tried++) {
                int waits = waitsFor(least);
                if (waits < least) {
                    least = waits;
                    System.arraycopy(row, 0, best, 0, size);
                }
                if (!nextRow(row, size)) {
                    break;
                }
            }
        }

        private void prepare(Moment start) {
            size = 0;
            for (int c = 0; c < told.calls; c++) {
                lineBits[c] = 1 << told.from[c] | 1 << told.to[c];
                endAtFirst[c] = start.how[c] == TALKS ? start.left[c] : UNPLUGGED;
                if (start.how[c] == WAITS) {
                    row[size] = c;
                    size++;
                }
            }
        }

        /** How long those of the row wait from now on; at least the limit, if not less than that. */
        private int waitsFor(int limit) {
            System.arraycopy(endAtFirst, 0, end, 0, MOST_CALLS);
            int sum = 0;
            int at = 0;
            for (int step = 0; step < ROW_MINUTES && at < ROW_MINUTES && sum < limit; step++) {
                int waiting = plugAlong(at);
                if (waiting == 0) {
                    break;
                }
                int next = nextEnd(at);
                sum += waiting * (next - at);
                at = next;
            }
            return sum;
        }

        /** Plugs along the row, as it can be: how many wait yet. */
        private int plugAlong(int at) {
            int engaged = 0;
            int free = told.cords;
            for (int c = 0; c < told.calls; c++) {
                if (end[c] > at) {
                    engaged |= lineBits[c];
                    free--;
                }
            }
            int waiting = 0;
            for (int i = 0; i < size; i++) {
                int c = row[i];
                if (end[c] != UNPLUGGED) {
                    continue;
                }
                if (free > 0 && (engaged & lineBits[c]) == 0) {
                    end[c] = at + told.length[c];
                    engaged |= lineBits[c];
                    free--;
                } else {
                    waiting++;
                }
            }
            return waiting;
        }

        private int nextEnd(int at) {
            int next = ROW_MINUTES;
            for (int c = 0; c < told.calls; c++) {
                if (end[c] > at && end[c] < next) {
                    next = end[c];
                }
            }
            return next;
        }
    }

    /** How long cords are by holes as they are, as they might be, and at best. */
    private static final class HoleSearch {
        private static final int MOST_ROWS = 720;

        private final Told told;
        private final int[] row = new int[MOST_LINES];
        final int[] best = new int[MOST_LINES];
        int least;

        HoleSearch(Told told) {
            this.told = told;
        }

        int inAll(int[] hole) {
            int sum = 0;
            for (int c = 0; c < told.calls; c++) {
                sum += told.apart(c, hole);
            }
            return sum;
        }

        /** Ten times the lesser line and the other one; NONE, if none makes cords shorter. */
        int bestExchange(int[] hole) {
            System.arraycopy(hole, 0, row, 0, MOST_LINES);
            int shortest = inAll(row);
            int answer = NONE;
            for (int a = 0; a < told.lines; a++) {
                for (int b = a + 1; b < told.lines; b++) {
                    exchange(row, a, b);
                    int sum = inAll(row);
                    exchange(row, a, b);
                    if (sum < shortest) {
                        shortest = sum;
                        answer = 10 * a + b;
                    }
                }
            }
            return answer;
        }

        void find() {
            for (int l = 0; l < told.lines; l++) {
                row[l] = l;
            }
            least = ABOVE_ALL_SUMS;
            for (int tried = 0; tried < MOST_ROWS; tried++) {
                int sum = inAll(row);
                if (sum < least) {
                    least = sum;
                    System.arraycopy(row, 0, best, 0, told.lines);
                }
                if (!nextRow(row, told.lines)) {
                    break;
                }
            }
        }
    }
}
