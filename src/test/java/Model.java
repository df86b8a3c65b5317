import java.util.ArrayList;
import java.util.List;
import java.util.TreeSet;

/** The whole face once more, in the plainest way, over the Java library: what long runs of calls are held against. */
final class Model {
    private static final long MOST = Plain.MOST;

    /** What THE IMAGE keeps. */
    private static final class World {
        int base = 10;
        int seed = 1;
        final List<int[]> laws = new ArrayList<>();
        final List<Long> slate = new ArrayList<>();

        World copy() {
            World copy = new World();
            copy.base = base;
            copy.seed = seed;
            for (int[] law : laws) {
                copy.laws.add(law.clone());
            }
            copy.slate.addAll(slate);
            return copy;
        }
    }

    private World world = new World();
    private World image;
    // each holds null, a law's place or a row
    private final Object[] shelves = new Object[8];
    private final int[] sorts = new int[8];
    private final int[] refusals = new int[8];
    private int fault = -1;
    private final List<Integer> trace = new ArrayList<>();

    long call(String name, long[] a) {
        int i = a.length > 0 ? (int) a[0] : 0;
        int j = a.length > 1 ? (int) a[1] : 0;
        int k = a.length > 2 ? (int) a[2] : 0;
        switch (name) {
            case "row": return row(i, j, k);
            case "set": return set(i, j, a[2]);
            case "copy": return copy(i, j, k, (int) a[3], (int) a[4]);
            case "element": return isRow(i) && j >= 0 && j < rowAt(i).length ? rowAt(i)[j] : 0;
            case "show": return show(i, j);
            case "holds": return holds(i);
            case "says": return says(i, j);
            case "base": return base(i);
            case "law": return law(i, j);
            case "value": return value(i, j, k);
            case "lawOf": return lawOf(i, j);
            case "text": return text(i);
            case "fault": return fault;
            case "seed": return seed(i);
            case "act": return act(i, j, k);
            case "trace": return i >= 0 && i < Math.min(20, trace.size()) ? trace.get(i) : -1;
            case "image": image = world.copy(); return world.laws.size();
            case "restore": return restore();
            case "status": return status(i);
            default: return slateCall(name, a, i, j, k);
        }
    }

    private long slateCall(String name, long[] a, int i, int j, int k) {
        switch (name) {
            case "write": return write(a[0]);
            case "slate": return i >= 0 && i < world.slate.size() ? world.slate.get(i) : no(5);
            case "on": return on(i, j);
            case "wipe": return wipe(i);
            case "lessons": return lessons(i);
            case "judge": return judge(i, j, k);
            case "laws": return laws(i, j);
            case "turned": return good(a[0]) ? Plain.turned(a[0], world.base) : no(6);
            case "numberOf": return numberOf(a[0], j);
            case "waits": return waits(a[0]);
            case "fit": return fit(a[0], a[1]);
            case "slip": return good(a[0]) && good(a[1]) ? Plain.slip(a[0], a[1], world.base) : no(6) - 10;
            case "missed": return good(a[0]) ? Plain.missed(a[0], world.base) : no(6);
            default: return lawCall(name, a, i, j, k);
        }
    }

    private long lawCall(String name, long[] a, int i, int j, int k) {
        boolean lower = name.equals("goes") || name.equals("longest");
        if (!isLaw(i)) {
            return lower ? no(1) - 10 : no(1);
        }
        Plain law = plain(i);
        switch (name) {
            case "next": return !good(a[1]) ? no(6) : orElse(law.next(a[1]), 7);
            case "after": return !good(a[1]) || k < 0 || k > 1000 ? no(6) : orElse(law.after(a[1], k), 7);
            case "goes": return !good(a[1]) ? no(6) - 10 : law.goes(a[1]);
            case "comes": return !good(a[1]) ? no(6) : law.goes(a[1]) < 0 ? no(5) : law.after(a[1], law.goes(a[1]));
            case "round": return round(law, a[1], k);
            case "meet": return !good(a[1]) || !good(a[2]) ? no(6) : orElse(law.meet(a[1], a[2]), 5);
            case "source": return began(law, a[1], 1, k);
            case "barren": return barren(law, j, k);
            case "longest": return longest(law, j);
            case "many": return many(law, j, k, (int) a[3]);
            case "rounds": return rounds(law, j);
            case "began": return began(law, a[1], k, (int) a[3]);
            default: throw new IllegalArgumentException(name);
        }
    }

    private long no(int refusal) {
        refusals[refusal]++;
        return -refusal;
    }

    private long orElse(long answer, int refusal) {
        return answer < 0 ? no(refusal) : answer;
    }

    private static boolean good(long x) {
        return x >= 0 && x <= MOST;
    }

    private boolean isLaw(int place) {
        return place >= 0 && place < world.laws.size();
    }

    private Plain plain(int place) {
        int[] law = world.laws.get(place);
        int[] values = new int[10];
        System.arraycopy(law, 2, values, 0, 10);
        return new Plain(world.base, law[0], law[1], values);
    }

    private static boolean isShelf(int s) {
        return s >= 0 && s < 8;
    }

    private boolean isRow(int s) {
        return isShelf(s) && shelves[s] instanceof long[];
    }

    private long[] rowAt(int s) {
        return (long[]) shelves[s];
    }

    /** The first refusal of a call that wants a row there, or 0. */
    private int noRow(int s) {
        if (!isShelf(s)) {
            return 1;
        }
        return shelves[s] == null ? 3 : isRow(s) ? 0 : 2;
    }

    private long row(int s, int sort, int n) {
        int no = !isShelf(s) ? 1 : n < 0 ? 4 : sort < 0 || sort > 3 ? 6 : n > 160 ? 7 : 0;
        if (no > 0) {
            return no(no);
        }
        shelves[s] = new long[n];
        sorts[s] = sort;
        return 1;
    }

    private long set(int s, int i, long v) {
        int no = noRow(s);
        if (no == 0 && (i < 0 || i >= rowAt(s).length)) {
            no = 5;
        }
        if (no > 0) {
            return no(no);
        }
        int bits = 8 << sorts[s];
        rowAt(s)[i] = v << 64 - bits >> 64 - bits;
        return 1;
    }

    private long copy(int p, int q, int i, int j, int n) {
        if (!isShelf(p) || !isShelf(q)) {
            return no(1);
        }
        if (noRow(p) == 2 || noRow(q) == 2 || isRow(p) && isRow(q) && sorts[p] != sorts[q]) {
            return no(2);
        }
        if (!isRow(p) || !isRow(q)) {
            return no(3);
        }
        if (n < 0) {
            return no(4);
        }
        long[] from = rowAt(p).clone();
        if (i < 0 || j < 0 || (long) i + n > from.length || (long) j + n > rowAt(q).length) {
            return no(5);
        }
        for (int m = 0; m < n; m++) {
            rowAt(q)[j + m] = from[i + m];
        }
        return 1;
    }

    private long show(int s, int law) {
        if (!isShelf(s) || law != -1 && !isLaw(law)) {
            return no(1);
        }
        shelves[s] = law == -1 ? null : (Object) law;
        return law == -1 ? 0 : 1;
    }

    private long holds(int s) {
        if (!isShelf(s) || shelves[s] == null) {
            return -1;
        }
        return isRow(s) ? 100 + sorts[s] : (Integer) shelves[s];
    }

    private long says(int s, int kind) {
        if (!isShelf(s) || kind < 0 || kind > 6) {
            return no(1);
        }
        if (shelves[s] == null) {
            return no(3);
        }
        String[] under = {"0", "01", "02", "013", "04", "025", "026"};
        if (isRow(s) || under[world.laws.get((Integer) shelves[s])[0]].indexOf('0' + kind) < 0) {
            return no(2);
        }
        Plain law = plain((Integer) shelves[s]);
        long[] numbers = {0, 100, 99, 495, 77, 0, 12};
        if (kind == 0) {
            return law.a;
        }
        if (kind != 5) {
            return law.next(numbers[kind]);
        }
        int greatest = 0;
        for (int figure = 0; figure < world.base; figure++) {
            greatest = Math.max(greatest, law.values[figure]);
        }
        int figure = 0;
        while (law.values[figure] != greatest) {
            figure++;
        }
        return figure;
    }

    private long base(int v) {
        if (v < 2 || v > 10) {
            return no(6);
        }
        int was = world.base;
        world.base = v;
        return was;
    }

    private long law(int kind, int a) {
        int no = kind < 0 || kind > 6 ? 1 : a < 0 || a > 9 ? 6 : world.laws.size() == 6 ? 7 : 0;
        if (no > 0) {
            return no(no);
        }
        int[] law = new int[12];
        law[0] = kind;
        law[1] = a;
        world.laws.add(law);
        return world.laws.size() - 1;
    }

    private long value(int law, int figure, int v) {
        if (!isLaw(law)) {
            return no(1);
        }
        int[] of = world.laws.get(law);
        if (of[0] != 5 || figure < 0 || figure > 9 || v < 0 || v > 999) {
            return no(6);
        }
        int was = of[2 + figure];
        of[2 + figure] = v;
        return was;
    }

    private long lawOf(int law, int what) {
        if (!isLaw(law) || what != 0 && what != 1 && (what < 10 || what > 19)) {
            return no(5);
        }
        return world.laws.get(law)[what < 2 ? what : what - 8];
    }

    /** Items are carried out one by one on a copy of the world; the first one that can't be tells where. */
    private long text(int s) {
        int no = noRow(s);
        if (no > 0) {
            return no(no);
        }
        StringBuilder letters = new StringBuilder();
        for (long letter : rowAt(s)) {
            int low = (int) letter;
            letters.append(low > 0 && low < 127 ? (char) low : '~');
        }
        World before = world.copy();
        int[] counts = refusals.clone();
        fault = -1;
        String text = letters.toString();
        int items = 0;
        int at = 0;
        while (fault < 0) {
            int end = text.indexOf(';', at);
            int place = item(text, at, end < 0 ? text.length() : end);
            items++;
            if (place >= 0) {
                fault = place;
            } else if (end < 0) {
                break;
            }
            at = end + 1;
        }
        System.arraycopy(counts, 0, refusals, 0, counts.length);
        if (fault < 0) {
            return items;
        }
        world = before;
        return no(6);
    }

    /** Carries out the item from at to end: -1, or the place where it can't stand. */
    private int item(String text, int at, int end) {
        String[] words = {"base", "law", "value", "write", "go"};
        String word = "";
        for (String w : words) {
            word = at < end && w.charAt(0) == text.charAt(at) ? w : word;
        }
        if (word.isEmpty()) {
            return at;
        }
        for (int i = 0; i < word.length(); i++) {
            if (at + i >= end || text.charAt(at + i) != word.charAt(i)) {
                return at + i;
            }
        }
        boolean writes = word.equals("write") || word.equals("go");
        if (writes && world.slate.size() == 20 || word.equals("law") && world.laws.size() == 6) {
            return at;
        }
        return word.equals("go") && world.slate.isEmpty() ? at : numbers(text, at, at + word.length(), end, word);
    }

    private int numbers(String text, int word, int from, int end, String name) {
        int count = name.equals("value") ? 3 : name.equals("law") ? 2 : 1;
        int[] least = {name.equals("base") ? 2 : 0, 0, 0};
        int[] most = {10, 9, 999};
        most[0] = name.equals("base") ? 10 : name.equals("law") ? 6 : name.equals("write") ? 999999 : world.laws.size() - 1;
        int[] numbers = new int[3];
        int at = from;
        for (int i = 0; i < count; i++) {
            if (at >= end || text.charAt(at) != ' ') {
                return at;
            }
            int first = ++at;
            while (at < end && at < first + 6 && Character.isDigit(text.charAt(at))) {
                at++;
            }
            if (at == first) {
                return at;
            }
            numbers[i] = Integer.parseInt(text.substring(first, at));
            boolean untold = name.equals("value") && i == 0 && isLaw(numbers[0]) && world.laws.get(numbers[0])[0] != 5;
            if (numbers[i] < least[i] || numbers[i] > most[i] || untold) {
                return first;
            }
        }
        if (name.equals("go") && plain(numbers[0]).next(world.slate.get(world.slate.size() - 1)) < 0) {
            return word;
        }
        if (at < end) {
            return at;
        }
        long[] args = {numbers[0], name.equals("go") ? 1 : numbers[1], numbers[2]};
        call(name.equals("go") ? "on" : name, args);
        return -1;
    }

    private long numberOf(long x, int what) {
        if (what < 0 || what > 3) {
            return no(5);
        }
        if (!good(x)) {
            return no(6);
        }
        String figures = Plain.figures(x, world.base);
        int sum = figures.chars().sum() - '0' * figures.length();
        int[] answers = {figures.length(), sum, Plain.alike(x, world.base) ? 1 : 0, Plain.check(x, world.base)};
        return answers[what];
    }

    private long waits(long x) {
        if (!good(x)) {
            return no(6);
        }
        // the figures of the front half, mirrored, or of the front half and 1
        String figures = Plain.figures(x, world.base);
        long front = Long.parseLong(figures.substring(0, (figures.length() + 1) / 2), world.base);
        for (long half = front; half <= front + 1; half++) {
            String head = Plain.figures(half, world.base);
            String back = new StringBuilder(head.substring(0, figures.length() / 2)).reverse().toString();
            long alike = Long.parseLong(head + back, world.base);
            if (alike >= x && Plain.figures(alike, world.base).length() == figures.length()) {
                return alike <= MOST ? alike - x : no(6);
            }
        }
        throw new IllegalStateException("no mirrored number for " + x);
    }

    private long fit(long x, long y) {
        if (!good(x) || !good(y)) {
            return no(6);
        }
        long bits = 0;
        for (int place = 0; place < world.laws.size(); place++) {
            bits += plain(place).next(x) == y ? 1 << place : 0;
        }
        return bits;
    }

    private long round(Plain law, long x, int what) {
        if (what < 0 || what > 2) {
            return no(5);
        }
        if (!good(x)) {
            return no(6);
        }
        long[] round = law.round(x);
        return round == null ? no(5) : round[what];
    }

    private long began(Plain law, long y, int g, int i) {
        if (i < -1) {
            return no(5);
        }
        if (!good(y) || g < 1 || g > 20) {
            return no(6);
        }
        List<Integer> began = law.began(y, g);
        return i == -1 ? began.size() : i < began.size() ? began.get(i) : no(5);
    }

    private long barren(Plain law, int f, int t) {
        if (f < 0 || t > 9999 || f > t) {
            return no(6);
        }
        boolean[] comes = new boolean[10000];
        for (int x = 0; x < 10000; x++) {
            long y = law.next(x);
            if (y >= 0 && y < 10000) {
                comes[(int) y] = true;
            }
        }
        int count = 0;
        for (int y = f; y <= t; y++) {
            count += comes[y] ? 0 : 1;
        }
        return count;
    }

    private long longest(Plain law, int n) {
        if (n < 1 || n > 2000) {
            return no(6) - 10;
        }
        int found = -1;
        int most = -1;
        for (int x = 0; x < n; x++) {
            int goes = law.goes(x);
            if (goes > most) {
                most = goes;
                found = x;
            }
        }
        return found;
    }

    private long many(Plain law, int f, int t, int g) {
        if (f < 0 || f > t || (long) t - f + 1 > 2000 || g < -1 || g > 200) {
            return no(6);
        }
        int count = 0;
        for (long x = f; x <= t; x++) {
            count += law.goes(x) == g ? 1 : 0;
        }
        return count;
    }

    private long rounds(Plain law, int n) {
        if (n < 1 || n > 500) {
            return no(6);
        }
        TreeSet<Long> leasts = new TreeSet<>();
        for (int x = 0; x < n; x++) {
            long[] round = law.round(x);
            if (round != null) {
                leasts.add(round[2]);
            }
        }
        return leasts.size();
    }

    private int noSlate(int s, int n) {
        int no = noRow(s);
        return no > 0 ? no : n < 0 ? 4 : n > rowAt(s).length ? 5 : n < 1 || n > 20 ? 6 : 0;
    }

    private int wrong(int law, int s, int n) {
        for (int i = 0; i < n; i++) {
            long x = rowAt(s)[i];
            if (!good(x) || i > 0 && plain(law).next(rowAt(s)[i - 1]) != x) {
                return i;
            }
        }
        return -1;
    }

    private long judge(int law, int s, int n) {
        int no = isLaw(law) ? noSlate(s, n) : 1;
        return no > 0 ? no(no) - 10 : wrong(law, s, n);
    }

    private long laws(int s, int n) {
        int no = noSlate(s, n);
        if (no > 0) {
            return no(no);
        }
        long bits = 0;
        for (int law = 0; law < world.laws.size(); law++) {
            bits += wrong(law, s, n) < 0 ? 1 << law : 0;
        }
        return bits;
    }

    private long write(long x) {
        if (!good(x) || world.slate.size() == 20) {
            return no(good(x) ? 7 : 6);
        }
        world.slate.add(x);
        return world.slate.size();
    }

    private boolean goOn(int law) {
        long next = plain(law).next(world.slate.get(world.slate.size() - 1));
        if (world.slate.size() == 20 || next < 0) {
            return false;
        }
        world.slate.add(next);
        return true;
    }

    private long on(int law, int n) {
        int no = !isLaw(law) ? 1 : n < 1 || n > 20 || world.slate.isEmpty() ? 6 : 0;
        if (no > 0) {
            return no(no);
        }
        int goes = 0;
        while (goes < n && goOn(law)) {
            goes++;
        }
        return goes;
    }

    private long wipe(int n) {
        if (n < 0 || n > 20) {
            return no(6);
        }
        for (int i = 0; i < n && !world.slate.isEmpty(); i++) {
            world.slate.remove(world.slate.size() - 1);
        }
        return world.slate.size();
    }

    private int draw(int n) {
        world.seed = (int) (world.seed * 1103515245L + 12345);
        return (int) ((world.seed & 0xffffffffL) / 65536 % n);
    }

    private long lessons(int n) {
        int no = world.laws.isEmpty() ? 5 : n < 1 || n > 9 ? 6 : 0;
        if (no > 0) {
            return no(no);
        }
        int count = 0;
        for (int i = 0; i < n; i++) {
            world.slate.clear();
            world.slate.add((long) draw(1000));
            int law = draw(world.laws.size());
            while (!Plain.alike(world.slate.get(world.slate.size() - 1), world.base) && goOn(law)) {
                continue;
            }
            count += Plain.alike(world.slate.get(world.slate.size() - 1), world.base) ? 1 : 0;
        }
        return count;
    }

    private long seed(int v) {
        int was = world.seed;
        world.seed = v;
        return was;
    }

    private long act(int law, int act, int x) {
        trace.clear();
        return isLaw(law) && act >= 0 && act <= 2 ? run(world.laws.get(law)[0], law, act, x) : 0;
    }

    /** Runs the body of a law's act that a kind has, or the next kind above; -1 stands above LAW. */
    private int body(int from, int law, int act, int x) {
        int[] above = {-1, 0, 0, 1, 0, 2, 2};
        int[][] numbers = {{10, 11, 12}, {20, 0, 0}, {0, 30, 0}, {0, 40, 0}, {51, 0, 50}, {0, 0, 60}, {70, 71, 0}};
        int kind = from;
        while (numbers[kind][act] == 0) {
            kind = above[kind];
        }
        int own = world.laws.get(law)[0];
        int k = world.laws.get(law)[1];
        int higher = above[kind];
        trace.add(numbers[kind][act]);
        switch (numbers[kind][act]) {
            case 10: return x + law;
            case 11: return run(own, law, 0, x) * 2;
            case 12: return run(own, law, 1, x) ^ run(own, law, 0, x - k);
            case 20: return run(higher, law, 0, x) + k;
            case 30: return run(higher, law, 1, x) * 3;
            case 40: return run(higher, law, 1, x + 1);
            case 50: return -run(higher, law, 2, x);
            case 51: return run(higher, law, 0, x) - law;
            case 60: return run(higher, law, 2, x) ^ 5;
            case 70: return run(higher, law, 0, x) * 2;
            default: return run(higher, law, 1, x - k);
        }
    }

    private int run(int kind, int law, int act, int x) {
        return body(kind, law, act, x);
    }

    private long restore() {
        if (image == null) {
            return no(6);
        }
        world = image.copy();
        for (int s = 0; s < 8; s++) {
            if (shelves[s] instanceof Integer && (Integer) shelves[s] >= world.laws.size()) {
                shelves[s] = null;
            }
        }
        return world.laws.size();
    }

    private long status(int what) {
        int[] first = {world.laws.size(), world.slate.size(), world.base, world.seed, trace.size()};
        if (what >= 0 && what < 5) {
            return first[what];
        }
        return what >= 11 && what <= 17 ? refusals[what - 10] : -1;
    }
}
