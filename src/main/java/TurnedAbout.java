import java.util.Arrays;

/** Numbers on a slate that go on by laws. What each call answers stands in the project's document. */
public final class TurnedAbout {
    public static final int NONE = -1;

    private static final int NOBODY = -1;
    private static final int OTHER = -2;
    private static final int NOTHING = -3;
    private static final int BELOW = -4;
    private static final int BEYOND = -5;
    private static final int WRONG = -6;
    private static final int ROOM = -7;
    private static final int REFUSAL_SORTS = 7;

    private static final long MOST = 999999999999999L;
    private static final int LEAST_BASE = 2;
    private static final int MOST_BASE = 10;
    private static final int FIGURE_SORTS = 10;
    // MOST has 50 FIGURES in BASE 2, and a sum of two such numbers one more
    private static final int MOST_FIGURES = 64;

    private static final int KIND_LAW = 0;
    private static final int KIND_TAKE = 1;
    private static final int KIND_SQUARE = 2;
    private static final int KIND_ORDER = 3;
    private static final int KIND_TIMES = 4;
    private static final int KIND_TOLD = 5;
    private static final int KIND_CUBE = 6;
    private static final int MOST_A = 9;
    private static final int MOST_VALUE = 999;

    private static final int LAW_ROOM = 6;
    private static final int SLATE_ROOM = 20;
    private static final int SHELF_ROOM = 8;
    private static final int ROW_ROOM = 160;
    private static final int TRACE_ROOM = 20;

    private static final int BYTES = 0;
    private static final int SHORTS = 1;
    private static final int INTS = 2;
    private static final int LONGS = 3;
    private static final int ROW_MARK = 100;

    private static final int MOST_GOES = 200;
    private static final int MOST_PLACE = 1000;
    private static final int MOST_AFTER = 1000;
    private static final int MOST_BEGAN_GOES = 20;
    private static final int SOURCE_END = 10000;
    private static final int MOST_LONGEST = 2000;
    private static final int MOST_MANY = 2000;
    private static final int MOST_ROUNDS = 500;
    private static final int MOST_LESSONS = 9;
    private static final int LESSON_NUMBERS = 1000;

    private static final int BITS = 64;

    private final State now;
    private final State imaged;
    private boolean imageTaken;
    private final Shelf[] shelves;
    private final int[] refusals;
    private final Reader reader;
    private int latestFault;
    // how many bodies ran in the latest act(), and behind that the first of them
    private final int[] ran;
    private final long[] run;
    // of the ROUND found last: its place, how long it is, its least number
    private final long[] roundFound;
    private final long[] leasts;
    private final long[] marks;

    public TurnedAbout() {
        now = new State();
        imaged = new State();
        shelves = new Shelf[SHELF_ROOM];
        for (int s = 0; s < shelves.length; s++) {
            shelves[s] = new Shelf();
        }
        refusals = new int[REFUSAL_SORTS];
        reader = new Reader();
        latestFault = NONE;
        ran = new int[TRACE_ROOM + 1];
        run = new long[MOST_PLACE + 1];
        roundFound = new long[3];
        leasts = new long[MOST_ROUNDS];
        marks = new long[SOURCE_END / BITS + 1];
    }

    // ---- shelves and rows

    public int row(int s, int sort, int n) {
        Shelf shelf = shelfAt(s);
        if (shelf == null) {
            return refuse(NOBODY);
        }
        if (n < 0) {
            return refuse(BELOW);
        }
        if (sort < BYTES || sort > LONGS) {
            return refuse(WRONG);
        }
        if (n > ROW_ROOM) {
            return refuse(ROOM);
        }
        shelf.holdRow(sort, n);
        return 1;
    }

    public int set(int s, int i, long v) {
        Shelf shelf = shelfAt(s);
        if (shelf == null) {
            return refuse(NOBODY);
        }
        int no = shelf.refusalOfRow();
        if (no != 0) {
            return refuse(no);
        }
        if (!shelf.has(i, 1)) {
            return refuse(BEYOND);
        }
        shelf.put(i, v);
        return 1;
    }

    public int copy(int p, int q, int i, int j, int n) {
        Shelf from = shelfAt(p);
        Shelf to = shelfAt(q);
        if (from == null || to == null) {
            return refuse(NOBODY);
        }
        boolean bothRows = from.sort != NONE && to.sort != NONE;
        if (from.law != NONE || to.law != NONE || bothRows && from.sort != to.sort) {
            return refuse(OTHER);
        }
        if (!bothRows) {
            return refuse(NOTHING);
        }
        if (n < 0) {
            return refuse(BELOW);
        }
        if (!from.has(i, n) || !to.has(j, n)) {
            return refuse(BEYOND);
        }
        System.arraycopy(from.elements, i, to.elements, j, n);
        return 1;
    }

    public long element(int s, int i) {
        Shelf shelf = shelfAt(s);
        return shelf == null ? 0 : shelf.elementAt(i);
    }

    public int show(int s, int law) {
        Shelf shelf = shelfAt(s);
        if (shelf == null || law != NONE && now.lawAt(law) == null) {
            return refuse(NOBODY);
        }
        shelf.holdLaw(law);
        return law == NONE ? 0 : 1;
    }

    public int holds(int s) {
        Shelf shelf = shelfAt(s);
        if (shelf == null) {
            return NONE;
        }
        return shelf.sort == NONE ? shelf.law : ROW_MARK + shelf.sort;
    }

    public int says(int s, int kind) {
        Shelf shelf = shelfAt(s);
        if (shelf == null || kind < KIND_LAW || kind > KIND_CUBE) {
            return refuse(NOBODY);
        }
        if (shelf.sort != NONE) {
            return refuse(OTHER);
        }
        Law law = now.lawAt(shelf.law);
        if (law == null) {
            return refuse(NOTHING);
        }
        if (!law.isUnder(kind)) {
            return refuse(OTHER);
        }
        return saying(law, kind);
    }

    private int saying(Law law, int kind) {
        switch (kind) {
            case KIND_TAKE:
                return (int) law.onward(100, now);
            case KIND_SQUARE:
                return (int) law.onward(99, now);
            case KIND_TIMES:
                return (int) law.onward(77, now);
            case KIND_ORDER:
                return (int) law.onward(495, now);
            case KIND_TOLD:
                return now.dearestFigure(law.place);
            case KIND_CUBE:
                return (int) law.onward(12, now);
            default:
                return law.a;
        }
    }

    private Shelf shelfAt(int s) {
        return s >= 0 && s < shelves.length ? shelves[s] : null;
    }

    // ---- base and laws

    public int base(int v) {
        if (v < LEAST_BASE || v > MOST_BASE) {
            return refuse(WRONG);
        }
        int was = now.base;
        now.base = v;
        return was;
    }

    public int law(int kind, int a) {
        if (kind < KIND_LAW || kind > KIND_CUBE) {
            return refuse(NOBODY);
        }
        if (a < 0 || a > MOST_A) {
            return refuse(WRONG);
        }
        if (now.lawsFull()) {
            return refuse(ROOM);
        }
        return now.addLaw(kind, a);
    }

    public int value(int law, int figure, int v) {
        Law of = now.lawAt(law);
        if (of == null) {
            return refuse(NOBODY);
        }
        boolean figureStands = figure >= 0 && figure < FIGURE_SORTS;
        if (!of.isUnder(KIND_TOLD) || !figureStands || v < 0 || v > MOST_VALUE) {
            return refuse(WRONG);
        }
        int was = now.valueOf(law, figure);
        now.tellValue(law, figure, v);
        return was;
    }

    public int lawOf(int law, int what) {
        Law of = now.lawAt(law);
        if (of == null) {
            return refuse(BEYOND);
        }
        if (what == 0) {
            return of.kindNumber();
        }
        if (what == 1) {
            return of.a;
        }
        if (what < 10 || what >= 10 + FIGURE_SORTS) {
            return refuse(BEYOND);
        }
        return now.valueOf(law, what - 10);
    }

    // ---- texts

    public int text(int s) {
        Shelf shelf = shelfAt(s);
        if (shelf == null) {
            return refuse(NOBODY);
        }
        int no = shelf.refusalOfRow();
        if (no != 0) {
            return refuse(no);
        }
        int items = reader.read(shelf, now);
        latestFault = reader.faultPlace;
        if (latestFault != NONE) {
            return refuse(WRONG);
        }
        now.takeOver(reader.state);
        return items;
    }

    public int fault() {
        return latestFault;
    }

    // ---- numbers

    public long turned(long x) {
        return isNumber(x) ? Figures.turnedOf(x, now.base) : refuse(WRONG);
    }

    public int numberOf(long x, int what) {
        if (what < 0 || what > 3) {
            return refuse(BEYOND);
        }
        if (!isNumber(x)) {
            return refuse(WRONG);
        }
        switch (what) {
            case 0:
                return Figures.howMany(x, now.base);
            case 1:
                return (int) Figures.together(x, now.base, 1);
            case 2:
                return isAlike(x) ? 1 : 0;
            default:
                return Figures.checkOf(x, now.base);
        }
    }

    public long waits(long x) {
        if (!isNumber(x)) {
            return refuse(WRONG);
        }
        long alike = Figures.alikeFrom(x, now.base);
        return isNumber(alike) ? alike - x : refuse(WRONG);
    }

    public int slip(long x, long sum) {
        if (!isNumber(x) || !isNumber(sum)) {
            return refuse(WRONG) - 10;
        }
        return Figures.firstUnlike(x + Figures.turnedOf(x, now.base), sum, now.base);
    }

    public int missed(long x) {
        return isNumber(x) ? Figures.missedSlips(x, now.base) : refuse(WRONG);
    }

    private static boolean isNumber(long x) {
        return x >= 0 && x <= MOST;
    }

    private boolean isAlike(long x) {
        return Figures.turnedOf(x, now.base) == x;
    }

    // ---- runs

    public long next(int law, long x) {
        Law by = now.lawAt(law);
        if (by == null) {
            return refuse(NOBODY);
        }
        if (!isNumber(x)) {
            return refuse(WRONG);
        }
        long y = by.onward(x, now);
        return y == NONE ? refuse(ROOM) : y;
    }

    public long after(int law, long x, int n) {
        Law by = now.lawAt(law);
        if (by == null) {
            return refuse(NOBODY);
        }
        if (!isNumber(x) || n < 0 || n > MOST_AFTER) {
            return refuse(WRONG);
        }
        long y = behind(by, x, n);
        return y == NONE ? refuse(ROOM) : y;
    }

    public int goes(int law, long x) {
        Law by = now.lawAt(law);
        if (by == null) {
            return refuse(NOBODY) - 10;
        }
        if (!isNumber(x)) {
            return refuse(WRONG) - 10;
        }
        return countGoes(by, x);
    }

    public long comes(int law, long x) {
        Law by = now.lawAt(law);
        if (by == null) {
            return refuse(NOBODY);
        }
        if (!isNumber(x)) {
            return refuse(WRONG);
        }
        int g = countGoes(by, x);
        return g == NONE ? refuse(BEYOND) : behind(by, x, g);
    }

    public long round(int law, long x, int what) {
        Law by = now.lawAt(law);
        if (by == null) {
            return refuse(NOBODY);
        }
        if (what < 0 || what >= roundFound.length) {
            return refuse(BEYOND);
        }
        if (!isNumber(x)) {
            return refuse(WRONG);
        }
        return findRound(by, x) ? roundFound[what] : refuse(BEYOND);
    }

    public long meet(int law, long x, long y) {
        Law by = now.lawAt(law);
        if (by == null) {
            return refuse(NOBODY);
        }
        if (!isNumber(x) || !isNumber(y)) {
            return refuse(WRONG);
        }
        int kept = keepRun(by, y, MOST_GOES + 1);
        long z = x;
        for (int g = 0; g <= MOST_GOES && z != NONE; g++) {
            if (isAmong(run, kept, z)) {
                return z;
            }
            z = by.onward(z, now);
        }
        return refuse(BEYOND);
    }

    /** The number behind n goes; NONE if the RUN ends ahead of it. */
    private long behind(Law by, long x, int n) {
        long y = x;
        for (int g = 0; g < n && y != NONE; g++) {
            y = by.onward(y, now);
        }
        return y;
    }

    private int countGoes(Law by, long x) {
        long y = x;
        long mark = NONE;
        int markAgain = 1;
        for (int g = 0; g <= MOST_GOES && y != NONE; g++) {
            if (isAlike(y)) {
                return g;
            }
            // a number that comes again brings nothing new behind it
            if (y == mark) {
                return NONE;
            }
            if (g == markAgain) {
                mark = y;
                markAgain = 2 * g;
            }
            y = by.onward(y, now);
        }
        return NONE;
    }

    /** Keeps the RUN's first numbers, as many as wanted if it has them, and answers how many. */
    private int keepRun(Law by, long x, int wanted) {
        int kept = 0;
        for (long y = x; kept < wanted && kept < run.length && y != NONE; kept++) {
            run[kept] = y;
            y = by.onward(y, now);
        }
        return kept;
    }

    private boolean findRound(Law by, long x) {
        int mark = 0;
        run[0] = x;
        for (int i = 1; i < run.length; i++) {
            long y = by.onward(run[i - 1], now);
            if (y == NONE) {
                return false;
            }
            run[i] = y;
            if (y == run[mark]) {
                return keepRound(i, i - mark);
            }
            if (i == 2 * mark + 1) {
                mark = i;
            }
        }
        // a ROUND that closes late may not have met a mark again: the last place is in it, if there is one
        int last = run.length - 1;
        for (int j = last - 1; j >= 0; j--) {
            if (run[j] == run[last]) {
                return keepRound(last, last - j);
            }
        }
        return false;
    }

    /** The RUN is kept up to place last, and its last number has come as many places ahead as the ROUND is long. */
    private boolean keepRound(int last, int length) {
        if (length < 1 || length > last || last >= run.length) {
            return false;
        }
        int place = 0;
        while (place < last - length && run[place] != run[place + length]) {
            place++;
        }
        long least = run[place];
        for (int i = place + 1; i < place + length; i++) {
            least = Math.min(least, run[i]);
        }
        roundFound[0] = place;
        roundFound[1] = length;
        roundFound[2] = least;
        return true;
    }

    private static boolean isAmong(long[] numbers, int count, long x) {
        for (int i = 0; i < count && i < numbers.length; i++) {
            if (numbers[i] == x) {
                return true;
            }
        }
        return false;
    }

    // ---- what comes of it

    public int source(int law, long y, int i) {
        Law by = now.lawAt(law);
        if (by == null) {
            return refuse(NOBODY);
        }
        if (i < NONE) {
            return refuse(BEYOND);
        }
        if (!isNumber(y)) {
            return refuse(WRONG);
        }
        return beginner(by, y, 1, i);
    }

    public int began(int law, long y, int g, int i) {
        Law by = now.lawAt(law);
        if (by == null) {
            return refuse(NOBODY);
        }
        if (i < NONE) {
            return refuse(BEYOND);
        }
        if (!isNumber(y) || g < 1 || g > MOST_BEGAN_GOES) {
            return refuse(WRONG);
        }
        return beginner(by, y, g, i);
    }

    /** The i-th of the small numbers that are y behind g goes, or how many there are (i NONE). */
    private int beginner(Law by, long y, int g, int i) {
        int count = 0;
        for (int x = 0; x < SOURCE_END; x++) {
            if (behind(by, x, g) == y) {
                if (count == i) {
                    return x;
                }
                count++;
            }
        }
        return i == NONE ? count : refuse(BEYOND);
    }

    public int barren(int law, int f, int t) {
        Law by = now.lawAt(law);
        if (by == null) {
            return refuse(NOBODY);
        }
        if (f < 0 || t >= SOURCE_END || f > t) {
            return refuse(WRONG);
        }
        Arrays.fill(marks, 0);
        for (int x = 0; x < SOURCE_END; x++) {
            mark(by.onward(x, now));
        }
        int count = 0;
        for (int y = f; y <= t; y++) {
            if (!isMarked(y)) {
                count++;
            }
        }
        return count;
    }

    private void mark(long y) {
        if (y >= 0 && y < SOURCE_END && y / BITS < marks.length) {
            marks[(int) (y / BITS)] |= 1L << (int) (y % BITS);
        }
    }

    private boolean isMarked(int y) {
        return y >= 0 && y / BITS < marks.length && (marks[y / BITS] >>> y % BITS & 1) == 1;
    }

    public int longest(int law, int n) {
        Law by = now.lawAt(law);
        if (by == null) {
            return refuse(NOBODY) - 10;
        }
        if (n < 1 || n > MOST_LONGEST) {
            return refuse(WRONG) - 10;
        }
        int found = NONE;
        int most = NONE;
        for (int x = 0; x < n; x++) {
            int g = countGoes(by, x);
            if (g > most) {
                most = g;
                found = x;
            }
        }
        return found;
    }

    public int many(int law, int f, int t, int g) {
        Law by = now.lawAt(law);
        if (by == null) {
            return refuse(NOBODY);
        }
        if (f < 0 || f > t || t - f >= MOST_MANY || g < NONE || g > MOST_GOES) {
            return refuse(WRONG);
        }
        int count = 0;
        for (int i = 0; i <= t - f; i++) {
            if (countGoes(by, (long) f + i) == g) {
                count++;
            }
        }
        return count;
    }

    public int rounds(int law, int n) {
        Law by = now.lawAt(law);
        if (by == null) {
            return refuse(NOBODY);
        }
        if (n < 1 || n > MOST_ROUNDS) {
            return refuse(WRONG);
        }
        int count = 0;
        for (int x = 0; x < n; x++) {
            boolean isNew = findRound(by, x) && !isAmong(leasts, count, roundFound[2]);
            if (isNew && count < leasts.length) {
                leasts[count] = roundFound[2];
                count++;
            }
        }
        return count;
    }

    public int fit(long x, long y) {
        if (!isNumber(x) || !isNumber(y)) {
            return refuse(WRONG);
        }
        int bits = 0;
        for (int place = 0; place < now.lawCount; place++) {
            Law by = now.lawAt(place);
            if (by != null && by.onward(x, now) == y) {
                bits |= 1 << place;
            }
        }
        return bits;
    }

    // ---- told slates

    public int judge(int law, int s, int n) {
        Law by = now.lawAt(law);
        Shelf shelf = shelfAt(s);
        if (by == null || shelf == null) {
            return refuse(NOBODY) - 10;
        }
        int no = refusalOfSlate(shelf, n);
        return no != 0 ? refuse(no) - 10 : firstWrong(by, shelf, n);
    }

    public int laws(int s, int n) {
        Shelf shelf = shelfAt(s);
        if (shelf == null) {
            return refuse(NOBODY);
        }
        int no = refusalOfSlate(shelf, n);
        if (no != 0) {
            return refuse(no);
        }
        int bits = 0;
        for (int place = 0; place < now.lawCount; place++) {
            Law by = now.lawAt(place);
            if (by != null && firstWrong(by, shelf, n) == NONE) {
                bits |= 1 << place;
            }
        }
        return bits;
    }

    private static int refusalOfSlate(Shelf shelf, int n) {
        int no = shelf.refusalOfRow();
        if (no != 0) {
            return no;
        }
        if (n < 0) {
            return BELOW;
        }
        if (n > shelf.length) {
            return BEYOND;
        }
        return n == 0 || n > SLATE_ROOM ? WRONG : 0;
    }

    private int firstWrong(Law by, Shelf shelf, int n) {
        for (int i = 0; i < n; i++) {
            long x = shelf.elementAt(i);
            if (!isNumber(x) || i > 0 && by.onward(shelf.elementAt(i - 1), now) != x) {
                return i;
            }
        }
        return NONE;
    }

    // ---- the slate in truth

    public int write(long x) {
        if (!isNumber(x)) {
            return refuse(WRONG);
        }
        if (now.slateFull()) {
            return refuse(ROOM);
        }
        now.put(x);
        return now.slateCount;
    }

    public long slate(int i) {
        boolean stands = i >= 0 && i < now.slateCount && i < now.numbers.length;
        return stands ? now.numbers[i] : refuse(BEYOND);
    }

    public int on(int law, int n) {
        Law by = now.lawAt(law);
        if (by == null) {
            return refuse(NOBODY);
        }
        if (n < 1 || n > SLATE_ROOM || now.slateCount == 0) {
            return refuse(WRONG);
        }
        int done = 0;
        while (done < n && now.goBy(by)) {
            done++;
        }
        return done;
    }

    public int wipe(int n) {
        if (n < 0 || n > SLATE_ROOM) {
            return refuse(WRONG);
        }
        now.slateCount = Math.max(0, now.slateCount - n);
        return now.slateCount;
    }

    public int lessons(int n) {
        if (now.lawCount == 0) {
            return refuse(BEYOND);
        }
        if (n < 1 || n > MOST_LESSONS) {
            return refuse(WRONG);
        }
        int came = 0;
        for (int i = 0; i < n; i++) {
            if (holdLesson()) {
                came++;
            }
        }
        return came;
    }

    private boolean holdLesson() {
        now.slateCount = 0;
        now.put(now.draw(LESSON_NUMBERS));
        Law by = now.lawAt(now.draw(now.lawCount));
        if (by == null) {
            return false;
        }
        for (int g = 0; g < SLATE_ROOM; g++) {
            if (isAlike(now.lastNumber())) {
                return true;
            }
            if (!now.goBy(by)) {
                return false;
            }
        }
        return false;
    }

    public int seed(int v) {
        int was = now.seed;
        now.seed = v;
        return was;
    }

    // ---- acts, the image, how many

    public int act(int law, int act, int x) {
        Arrays.fill(ran, 0);
        Law by = now.lawAt(law);
        if (by == null) {
            return 0;
        }
        switch (act) {
            case 0:
                return by.turns(x, ran);
            case 1:
                return by.adds(x, ran);
            case 2:
                return by.reads(x, ran);
            default:
                return 0;
        }
    }

    public int trace(int i) {
        boolean stands = i >= 0 && i < ran[0] && i < TRACE_ROOM;
        return stands ? ran[i + 1] : NONE;
    }

    public int image() {
        imaged.takeOver(now);
        imageTaken = true;
        return now.lawCount;
    }

    public int restore() {
        if (!imageTaken) {
            return refuse(WRONG);
        }
        now.takeOver(imaged);
        for (int s = 0; s < shelves.length; s++) {
            Shelf shelf = shelves[s];
            if (shelf != null && shelf.law >= now.lawCount) {
                shelf.holdLaw(NONE);
            }
        }
        return now.lawCount;
    }

    public int status(int what) {
        switch (what) {
            case 0:
                return now.lawCount;
            case 1:
                return now.slateCount;
            case 2:
                return now.base;
            case 3:
                return now.seed;
            case 4:
                return ran[0];
            default:
                boolean isRefusal = what > 10 && what <= 10 + refusals.length;
                return isRefusal ? refusals[what - 11] : NONE;
        }
    }

    /** Counts a refusal and answers its number. */
    private int refuse(int no) {
        int i = -no - 1;
        if (i >= 0 && i < refusals.length) {
            refusals[i]++;
        }
        return no;
    }

    /** What a number's FIGURES tell, in a base. */
    private static final class Figures {
        static long turnedOf(long x, int base) {
            if (base < LEAST_BASE) {
                return x;
            }
            long turned = 0;
            long rest = x;
            for (int i = 0; i < MOST_FIGURES && rest > 0; i++) {
                turned = turned * base + rest % base;
                rest /= base;
            }
            return turned;
        }

        static int howMany(long x, int base) {
            if (base < LEAST_BASE) {
                return 1;
            }
            int count = 1;
            for (long rest = x / base; count < MOST_FIGURES && rest > 0; count++) {
                rest /= base;
            }
            return count;
        }

        /** All figures to a power, as a sum. */
        static long together(long x, int base, int power) {
            if (base < LEAST_BASE) {
                return 0;
            }
            long sum = 0;
            long rest = x;
            for (int i = 0; i < MOST_FIGURES && rest > 0; i++) {
                long figure = rest % base;
                long raised = figure;
                for (int p = 1; p < power; p++) {
                    raised *= figure;
                }
                sum += raised;
                rest /= base;
            }
            return sum;
        }

        static long multiplied(long x, int base) {
            if (base < LEAST_BASE || x == 0) {
                return 0;
            }
            long product = 1;
            long rest = x;
            for (int i = 0; i < MOST_FIGURES && rest > 0; i++) {
                product *= rest % base;
                rest /= base;
            }
            return product;
        }

        static int checkOf(long x, int base) {
            if (base < LEAST_BASE) {
                return 0;
            }
            long sum = 0;
            long rest = x;
            for (int i = 1; i <= MOST_FIGURES && rest > 0; i++) {
                sum += i * (rest % base);
                rest /= base;
            }
            return (int) (sum % base);
        }

        /** The figures from the greatest to the least, less those from the least to the greatest. */
        static long spread(long x, int base) {
            if (base < LEAST_BASE) {
                return 0;
            }
            // six bits a figure hold how often it is there, which spares an array for each number
            long counts = 0;
            long rest = x;
            for (int i = 0; i < MOST_FIGURES && rest > 0; i++) {
                counts += 1L << (int) (6 * (rest % base));
                rest /= base;
            }
            long falling = 0;
            long rising = 0;
            for (int figure = 0; figure < base; figure++) {
                long often = counts >>> 6 * figure & 63;
                long oftenOther = counts >>> 6 * (base - 1 - figure) & 63;
                for (long i = 0; i < often; i++) {
                    rising = rising * base + figure;
                }
                for (long i = 0; i < oftenOther; i++) {
                    falling = falling * base + base - 1 - figure;
                }
            }
            return falling - rising;
        }

        /** The first number from x on that reads alike; it may be above MOST. */
        static long alikeFrom(long x, int base) {
            if (base < LEAST_BASE) {
                return x;
            }
            int count = howMany(x, base);
            long head = x;
            for (int i = 0; i < count / 2; i++) {
                head /= base;
            }
            long alike = mirrored(head, count, base);
            // a head of the greatest figures alone is never too small, so that one more has as many figures
            return alike >= x ? alike : mirrored(head + 1, count, base);
        }

        /** A number of so many figures that reads alike and begins with the head (its first half and the middle). */
        private static long mirrored(long head, int count, int base) {
            if (base < LEAST_BASE) {
                return head;
            }
            long alike = head;
            long rest = count % 2 == 1 ? head / base : head;
            for (int i = 0; i < count / 2; i++) {
                alike = alike * base + rest % base;
                rest /= base;
            }
            return alike;
        }

        static int firstUnlike(long x, long y, int base) {
            if (base < LEAST_BASE) {
                return NONE;
            }
            long restOfX = x;
            long restOfY = y;
            for (int i = 0; i < MOST_FIGURES && restOfX != restOfY; i++) {
                if (restOfX % base != restOfY % base) {
                    return i;
                }
                restOfX /= base;
                restOfY /= base;
            }
            return NONE;
        }

        /** How many slips in one figure leave the check as it is. */
        static int missedSlips(long x, int base) {
            if (base < LEAST_BASE) {
                return 0;
            }
            int count = howMany(x, base);
            int missed = 0;
            long unit = 1;
            long rest = x;
            for (int i = 0; i < count; i++) {
                long figure = rest % base;
                boolean isFirst = count > 1 && i == count - 1;
                for (int other = isFirst ? 1 : 0; other < base; other++) {
                    long change = other - figure;
                    boolean stands = change != 0 && isNumber(x + change * unit);
                    if (stands && (i + 1) * change % base == 0) {
                        missed++;
                    }
                }
                rest /= base;
                unit *= base;
            }
            return missed;
        }
    }

    /** All that THE IMAGE keeps: BASE, SEED, LAWS with their VALUES, THE SLATE. */
    private static final class State {
        int base;
        int seed;
        int lawCount;
        int slateCount;
        final Law[] rules;
        final int[] values;
        final long[] numbers;

        State() {
            base = MOST_BASE;
            seed = 1;
            rules = new Law[LAW_ROOM];
            values = new int[LAW_ROOM * FIGURE_SORTS];
            numbers = new long[SLATE_ROOM];
        }

        /** What stands behind the counts comes, too: values that no law has yet are 0 there. */
        void takeOver(State other) {
            base = other.base;
            seed = other.seed;
            lawCount = other.lawCount;
            slateCount = other.slateCount;
            for (int i = 0; i < rules.length && i < other.rules.length; i++) {
                rules[i] = other.rules[i];
            }
            for (int i = 0; i < values.length && i < other.values.length; i++) {
                values[i] = other.values[i];
            }
            for (int i = 0; i < numbers.length && i < other.numbers.length; i++) {
                numbers[i] = other.numbers[i];
            }
        }

        Law lawAt(int place) {
            return place >= 0 && place < lawCount && place < rules.length ? rules[place] : null;
        }

        boolean lawsFull() {
            return lawCount >= rules.length;
        }

        int addLaw(int kind, int a) {
            if (lawCount < 0 || lawCount >= rules.length) {
                return NONE;
            }
            int place = lawCount;
            rules[place] = newLaw(kind, place, a);
            lawCount++;
            return place;
        }

        private static Law newLaw(int kind, int place, int a) {
            switch (kind) {
                case KIND_TAKE:
                    return new Take(place, a);
                case KIND_SQUARE:
                    return new Square(place, a);
                case KIND_ORDER:
                    return new Order(place, a);
                case KIND_TIMES:
                    return new Times(place, a);
                case KIND_TOLD:
                    return new Told(place, a);
                case KIND_CUBE:
                    return new Cube(place, a);
                default:
                    return new Law(place, a);
            }
        }

        int valueOf(int place, int figure) {
            int i = place * FIGURE_SORTS + figure;
            return i >= 0 && i < values.length ? values[i] : 0;
        }

        void tellValue(int place, int figure, int v) {
            int i = place * FIGURE_SORTS + figure;
            if (i >= 0 && i < values.length) {
                values[i] = v;
            }
        }

        /** The first figure below BASE whose value is the greatest. */
        int dearestFigure(int place) {
            int dearest = 0;
            for (int figure = 1; figure < base; figure++) {
                if (valueOf(place, figure) > valueOf(place, dearest)) {
                    dearest = figure;
                }
            }
            return dearest;
        }

        boolean slateFull() {
            return slateCount >= numbers.length;
        }

        void put(long x) {
            if (slateCount >= 0 && slateCount < numbers.length) {
                numbers[slateCount] = x;
                slateCount++;
            }
        }

        /** The last number of THE SLATE; NONE if it is empty. */
        long lastNumber() {
            int last = slateCount - 1;
            return last >= 0 && last < numbers.length ? numbers[last] : NONE;
        }

        /** One go on THE SLATE; false if there is no number, no room or no NEXT. */
        boolean goBy(Law by) {
            long x = lastNumber();
            if (x == NONE || slateFull()) {
                return false;
            }
            long y = by.onward(x, this);
            if (y == NONE) {
                return false;
            }
            put(y);
            return true;
        }

        int draw(int n) {
            seed = seed * 1103515245 + 12345;
            return n > 0 ? (seed >>> 16) % n : 0;
        }
    }

    /** What a shelf holds: a row (it has a sort), a law (it has a place), or nothing. */
    private static final class Shelf {
        final long[] elements;
        int sort;
        int length;
        int law;

        Shelf() {
            elements = new long[ROW_ROOM];
            sort = NONE;
            law = NONE;
        }

        void holdRow(int newSort, int n) {
            sort = newSort;
            length = n;
            law = NONE;
            Arrays.fill(elements, 0);
        }

        /** The place NONE leaves the shelf with nothing. */
        void holdLaw(int place) {
            sort = NONE;
            length = 0;
            law = place;
        }

        /** 0 if there is a row. */
        int refusalOfRow() {
            if (law != NONE) {
                return OTHER;
            }
            return sort == NONE ? NOTHING : 0;
        }

        /** Whether n elements stand from i on; n from 0 on. */
        boolean has(int i, int n) {
            return i >= 0 && n <= length && i <= length - n;
        }

        long elementAt(int i) {
            return i >= 0 && i < length && i < elements.length ? elements[i] : 0;
        }

        int letterAt(int i) {
            return (int) elementAt(i);
        }

        void put(int i, long v) {
            if (i >= 0 && i < elements.length) {
                elements[i] = lowestBits(v);
            }
        }

        private long lowestBits(long v) {
            switch (sort) {
                case BYTES:
                    return (byte) v;
                case SHORTS:
                    return (short) v;
                case INTS:
                    return (int) v;
                default:
                    return v;
            }
        }
    }

    /** Reads a text and carries it out on a state of its own, up to the first fault. */
    private static final class Reader {
        private static final int MOST_DIGITS = 6;
        private static final int ANY_NUMBER = 999999;

        final State state;
        private Shelf letters;
        private int at;
        private int numberRead;
        private int numberPlace;
        int faultPlace;

        Reader() {
            state = new State();
            faultPlace = NONE;
        }

        /** How many items; if there is a fault, its place is kept. */
        int read(Shelf row, State from) {
            state.takeOver(from);
            letters = row;
            at = 0;
            faultPlace = NONE;
            int items = 0;
            while (items <= ROW_ROOM && readItem()) {
                items++;
                if (at >= letters.length || !readSign(';')) {
                    return items;
                }
            }
            return items;
        }

        private boolean readItem() {
            switch (letters.letterAt(at)) {
                case 'b':
                    return readBase();
                case 'l':
                    return readLaw();
                case 'v':
                    return readValue();
                case 'w':
                    return readWrite();
                case 'g':
                    return readGo();
                default:
                    return failAt(at);
            }
        }

        private boolean readBase() {
            if (!readWord("base") || !readNumber(LEAST_BASE, MOST_BASE)) {
                return false;
            }
            state.base = numberRead;
            return true;
        }

        private boolean readLaw() {
            int word = at;
            if (!readWord("law")) {
                return false;
            }
            if (state.lawsFull()) {
                return failAt(word);
            }
            if (!readNumber(KIND_LAW, KIND_CUBE)) {
                return false;
            }
            int kind = numberRead;
            if (!readNumber(0, MOST_A)) {
                return false;
            }
            state.addLaw(kind, numberRead);
            return true;
        }

        private boolean readValue() {
            if (!readWord("value") || !readNumber(0, state.lawCount - 1)) {
                return false;
            }
            int place = numberRead;
            Law of = state.lawAt(place);
            if (of == null || !of.isUnder(KIND_TOLD)) {
                return failAt(numberPlace);
            }
            if (!readNumber(0, FIGURE_SORTS - 1)) {
                return false;
            }
            int figure = numberRead;
            if (!readNumber(0, MOST_VALUE)) {
                return false;
            }
            state.tellValue(place, figure, numberRead);
            return true;
        }

        private boolean readWrite() {
            int word = at;
            if (!readWord("write")) {
                return false;
            }
            if (state.slateFull()) {
                return failAt(word);
            }
            if (!readNumber(0, ANY_NUMBER)) {
                return false;
            }
            state.put(numberRead);
            return true;
        }

        private boolean readGo() {
            int word = at;
            if (!readWord("go")) {
                return false;
            }
            if (state.slateCount == 0 || state.slateFull()) {
                return failAt(word);
            }
            if (!readNumber(0, state.lawCount - 1)) {
                return false;
            }
            Law by = state.lawAt(numberRead);
            long y = by == null ? NONE : by.onward(state.lastNumber(), state);
            if (y == NONE) {
                return failAt(word);
            }
            state.put(y);
            return true;
        }

        private boolean readWord(String word) {
            for (int i = 0; i < word.length(); i++) {
                if (!readSign(word.charAt(i))) {
                    return false;
                }
            }
            return true;
        }

        private boolean readSign(int sign) {
            if (letters.letterAt(at) != sign) {
                return failAt(at);
            }
            at++;
            return true;
        }

        /** A blank and a number. */
        private boolean readNumber(int least, int most) {
            if (!readSign(' ')) {
                return false;
            }
            numberPlace = at;
            numberRead = 0;
            for (int i = 0; i < MOST_DIGITS && isDigit(letters.letterAt(at)); i++) {
                numberRead = numberRead * 10 + letters.letterAt(at) - '0';
                at++;
            }
            if (at == numberPlace || numberRead < least || numberRead > most) {
                return failAt(numberPlace);
            }
            return true;
        }

        private static boolean isDigit(int letter) {
            return letter >= '0' && letter <= '9';
        }

        /** Behind the last element a letter is missing: that place is the number of elements. */
        private boolean failAt(int place) {
            faultPlace = place;
            return false;
        }
    }

    /** A LAW; each turns, adds and reads notes its body's number in ran (its count first) as it begins. */
    private static class Law {
        final int place;
        final int a;

        Law(int place, int a) {
            this.place = place;
            this.a = a;
        }

        int kindNumber() {
            return KIND_LAW;
        }

        /** Whether it is of this kind or of one under it. */
        boolean isUnder(int kind) {
            return kind == KIND_LAW;
        }

        /** NEXT, though it may be above MOST. */
        long reckon(long x, State state) {
            return x + Figures.turnedOf(x, state.base) + a;
        }

        /** NEXT; NONE if there is none. */
        final long onward(long x, State state) {
            long y = reckon(x, state);
            return y > MOST ? NONE : y;
        }

        int turns(int x, int[] ran) {
            if (++ran[0] < ran.length) {
                ran[ran[0]] = 10;
            }
            return x + place;
        }

        int adds(int x, int[] ran) {
            if (++ran[0] < ran.length) {
                ran[ran[0]] = 11;
            }
            return turns(x, ran) * 2;
        }

        int reads(int x, int[] ran) {
            if (++ran[0] < ran.length) {
                ran[ran[0]] = 12;
            }
            int added = adds(x, ran);
            return added ^ turns(x - a, ran);
        }
    }

    private static class Take extends Law {
        Take(int place, int a) {
            super(place, a);
        }

        int kindNumber() {
            return KIND_TAKE;
        }

        boolean isUnder(int kind) {
            return kind == KIND_TAKE || super.isUnder(kind);
        }

        long reckon(long x, State state) {
            return Math.abs(x - Figures.turnedOf(x, state.base));
        }

        int turns(int x, int[] ran) {
            if (++ran[0] < ran.length) {
                ran[ran[0]] = 20;
            }
            return super.turns(x, ran) + a;
        }
    }

    private static final class Order extends Take {
        Order(int place, int a) {
            super(place, a);
        }

        int kindNumber() {
            return KIND_ORDER;
        }

        boolean isUnder(int kind) {
            return kind == KIND_ORDER || super.isUnder(kind);
        }

        long reckon(long x, State state) {
            return Figures.spread(x, state.base);
        }

        int adds(int x, int[] ran) {
            if (++ran[0] < ran.length) {
                ran[ran[0]] = 40;
            }
            return super.adds(x + 1, ran);
        }
    }

    private static class Square extends Law {
        Square(int place, int a) {
            super(place, a);
        }

        int kindNumber() {
            return KIND_SQUARE;
        }

        boolean isUnder(int kind) {
            return kind == KIND_SQUARE || super.isUnder(kind);
        }

        long reckon(long x, State state) {
            return Figures.together(x, state.base, 2);
        }

        int adds(int x, int[] ran) {
            if (++ran[0] < ran.length) {
                ran[ran[0]] = 30;
            }
            return super.adds(x, ran) * 3;
        }
    }

    private static final class Times extends Law {
        Times(int place, int a) {
            super(place, a);
        }

        int kindNumber() {
            return KIND_TIMES;
        }

        boolean isUnder(int kind) {
            return kind == KIND_TIMES || super.isUnder(kind);
        }

        long reckon(long x, State state) {
            return Figures.multiplied(x, state.base) + a;
        }

        int reads(int x, int[] ran) {
            if (++ran[0] < ran.length) {
                ran[ran[0]] = 50;
            }
            return -super.reads(x, ran);
        }

        int turns(int x, int[] ran) {
            if (++ran[0] < ran.length) {
                ran[ran[0]] = 51;
            }
            return super.turns(x, ran) - place;
        }
    }

    private static final class Told extends Square {
        Told(int place, int a) {
            super(place, a);
        }

        int kindNumber() {
            return KIND_TOLD;
        }

        boolean isUnder(int kind) {
            return kind == KIND_TOLD || super.isUnder(kind);
        }

        long reckon(long x, State state) {
            int base = state.base;
            if (base < LEAST_BASE) {
                return 0;
            }
            long sum = state.valueOf(place, (int) (x % base));
            long rest = x / base;
            for (int i = 1; i < MOST_FIGURES && rest > 0; i++) {
                sum += state.valueOf(place, (int) (rest % base));
                rest /= base;
            }
            return sum;
        }

        int reads(int x, int[] ran) {
            if (++ran[0] < ran.length) {
                ran[ran[0]] = 60;
            }
            return super.reads(x, ran) ^ 5;
        }
    }

    private static final class Cube extends Square {
        Cube(int place, int a) {
            super(place, a);
        }

        int kindNumber() {
            return KIND_CUBE;
        }

        boolean isUnder(int kind) {
            return kind == KIND_CUBE || super.isUnder(kind);
        }

        long reckon(long x, State state) {
            return Figures.together(x, state.base, 3);
        }

        int turns(int x, int[] ran) {
            if (++ran[0] < ran.length) {
                ran[ran[0]] = 70;
            }
            return super.turns(x, ran) * 2;
        }

        int adds(int x, int[] ran) {
            if (++ran[0] < ran.length) {
                ran[ran[0]] = 71;
            }
            return super.adds(x - a, ran);
        }
    }
}
