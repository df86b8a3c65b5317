/** Promises 1 to 8: a new object, rows, what shelves hold, what laws on them say. */
public final class ShelvesTest {
    private static final int NONE = TurnedAbout.NONE;

    public static void main(String[] args) {
        newObject();
        rows();
        sets();
        copies();
        shows();
        saysByKind();
        saysRefused();
        Due.end();
    }

    private static void newObject() {
        TurnedAbout x = new TurnedAbout();
        Due.is("1: NONE", NONE, -1);
        Due.is("1: laws", x.status(0), 0);
        Due.is("1: slate", x.status(1), 0);
        Due.is("1: base", x.status(2), 10);
        Due.is("1: seed", x.status(3), 1);
        Due.is("1: bodies", x.status(4), 0);
        for (int what = 11; what <= 17; what++) {
            Due.is("1: status " + what, x.status(what), 0);
        }
        for (int s = 0; s < 8; s++) {
            Due.is("1: holds " + s, x.holds(s), NONE);
        }
        Due.is("1: fault", x.fault(), NONE);
        Due.is("1: trace", x.trace(0), NONE);
        Due.is("1: restore", x.restore(), -6);
    }

    private static void rows() {
        TurnedAbout x = new TurnedAbout();
        for (int sort = 0; sort < 4; sort++) {
            Due.is("2: row", x.row(sort, sort, 160), 1);
            Due.is("7: holds a row", x.holds(sort), 100 + sort);
        }
        Due.is("2: no elements", x.row(7, 3, 0), 1);
        Due.is("2: shelf -1", x.row(-1, 0, 1), -1);
        Due.is("2: shelf 8", x.row(8, 9, -1), -1);
        Due.is("2: n below 0 ahead of the sort", x.row(0, 4, -1), -4);
        Due.is("2: sort 4 ahead of room", x.row(0, 4, 161), -6);
        Due.is("2: sort -1", x.row(0, -1, 1), -6);
        Due.is("2: 161", x.row(0, 0, 161), -7);
        Due.is("2: still there", x.set(0, 159, 5), 1);
        Due.is("2: a new row again", x.row(0, 1, 160), 1);
        Due.is("2: is 0 at first", x.element(0, 159), 0);
        Due.is("2: refused -1", x.status(11), 2);
        Due.is("2: refused -4", x.status(14), 1);
        Due.is("2: refused -6", x.status(16), 2);
        Due.is("2: refused -7", x.status(17), 1);
        x.law(0, 0);
        x.show(0, 0);
        Due.is("2: over a law", x.row(0, 2, 3), 1);
        Due.is("2: holds the row", x.holds(0), 102);
    }

    private static void sets() {
        TurnedAbout x = new TurnedAbout();
        long v = 0x123456789abcdef0L;
        long[] kept = {(byte) 0xf0, (short) 0xdef0, 0x9abcdef0, v};
        for (int sort = 0; sort < 4; sort++) {
            x.row(sort, sort, 2);
            Due.is("3: set", x.set(sort, 1, v), 1);
            Due.is("3: lowest bits of sort " + sort, x.element(sort, 1), kept[sort]);
            Due.is("5: the other", x.element(sort, 0), 0);
        }
        x.set(0, 0, 128);
        Due.is("3: a byte", x.element(0, 0), -128);
        x.set(2, 0, 4294967295L);
        Due.is("3: an int", x.element(2, 0), -1);
        Due.is("3: shelf", x.set(8, 0, 0), -1);
        Due.is("3: nothing", x.set(4, 0, 0), -3);
        x.law(0, 0);
        x.show(5, 0);
        Due.is("3: a law", x.set(5, 0, 0), -2);
        Due.is("3: element -1", x.set(0, -1, 0), -5);
        Due.is("3: element 2", x.set(0, 2, 0), -5);
        Due.is("5: no shelf", x.element(-1, 0), 0);
        Due.is("5: behind the end", x.element(3, 2), 0);
        Due.is("5: ahead of it", x.element(3, -1), 0);
        Due.is("5: of a law", x.element(5, 0), 0);
        Due.is("5: of nothing", x.element(6, 0), 0);
        Due.is("5: nothing refused", x.status(11) + x.status(12) + x.status(13) + x.status(15), 5);
    }

    private static void copies() {
        TurnedAbout x = new TurnedAbout();
        Due.numbers(x, 0, 3, 10, 11, 12, 13, 14);
        Due.is("4: over itself, up", x.copy(0, 0, 0, 1, 4), 1);
        long[] up = {10, 10, 11, 12, 13};
        for (int i = 0; i < up.length; i++) {
            Due.is("4: up " + i, x.element(0, i), up[i]);
        }
        Due.is("4: over itself, down", x.copy(0, 0, 2, 0, 3), 1);
        long[] down = {11, 12, 13, 12, 13};
        for (int i = 0; i < down.length; i++) {
            Due.is("4: down " + i, x.element(0, i), down[i]);
        }
        x.row(1, 3, 3);
        Due.is("4: to another", x.copy(0, 1, 1, 0, 2), 1);
        Due.is("4: came", x.element(1, 0), 12);
        Due.is("4: came, too", x.element(1, 1), 13);
        Due.is("4: not that", x.element(1, 2), 0);
        Due.is("4: none at the ends", x.copy(0, 1, 5, 3, 0), 1);
        Due.is("4: none behind the end", x.copy(0, 1, 6, 3, 0), -5);
        Due.is("4: none behind the other end", x.copy(0, 1, 5, 4, 0), -5);
        Due.is("4: end", x.copy(0, 1, 3, 0, 3), -5);
        Due.is("4: other end", x.copy(0, 1, 0, 1, 3), -5);
        Due.is("4: i below 0", x.copy(0, 1, -1, 0, 1), -5);
        Due.is("4: j below 0", x.copy(0, 1, 0, -1, 1), -5);
        Due.is("4: far i", x.copy(0, 1, Integer.MAX_VALUE, 0, 1), -5);
        Due.is("4: far n", x.copy(0, 1, 1, 1, Integer.MAX_VALUE), -5);
        Due.is("4: n below 0", x.copy(0, 1, -1, 0, -1), -4);
        Due.is("4: nothing", x.copy(0, 2, -1, 0, -1), -3);
        Due.is("4: nothing first", x.copy(2, 0, -1, 0, -1), -3);
        x.row(3, 2, 3);
        Due.is("4: two sorts", x.copy(0, 3, 0, 0, -1), -2);
        x.law(0, 0);
        x.show(4, 0);
        Due.is("4: a law and nothing", x.copy(2, 4, 0, 0, 1), -2);
        Due.is("4: a law first", x.copy(4, 2, 0, 0, 1), -2);
        Due.is("4: shelf 8", x.copy(4, 8, 0, 0, 1), -1);
        Due.is("4: shelf -1", x.copy(-1, 4, 0, 0, 1), -1);
    }

    private static void shows() {
        TurnedAbout x = new TurnedAbout();
        Due.is("6: no law yet", x.show(0, 0), -1);
        x.law(5, 2);
        x.law(0, 0);
        Due.is("6: shows", x.show(0, 1), 1);
        Due.is("7: holds", x.holds(0), 1);
        Due.is("6: place 2", x.show(0, 2), -1);
        Due.is("6: place -2", x.show(0, -2), -1);
        Due.is("6: shelf 8", x.show(8, 0), -1);
        Due.is("6: shelf -1, nothing", x.show(-1, NONE), -1);
        Due.is("7: still holds", x.holds(0), 1);
        Due.is("6: nothing", x.show(0, NONE), 0);
        Due.is("7: holds nothing", x.holds(0), NONE);
        Due.is("7: no shelf", x.holds(8), NONE);
        Due.is("7: no shelf -1", x.holds(-1), NONE);
        x.row(1, 1, 4);
        Due.is("6: over a row", x.show(1, 0), 1);
        Due.is("7: holds the law", x.holds(1), 0);
        Due.numbers(x, 2, 3, 5, 6);
        x.show(2, 0);
        Due.is("5: of a law where a row was", x.element(2, 0), 0);
        x.show(2, NONE);
        Due.is("5: of nothing where a row was", x.element(2, 1), 0);
        Due.is("6: refused", x.status(11), 5);
    }

    private static void saysByKind() {
        TurnedAbout x = new TurnedAbout();
        int[] kinds = {0, 1, 2, 3, 4, 5};
        int[] as = {7, 1, 2, 3, 4, 5};
        for (int i = 0; i < kinds.length; i++) {
            x.law(kinds[i], as[i]);
            x.show(i, i);
            Due.is("8: its a", x.says(i, 0), as[i]);
        }
        Due.is("8: take, 100 less 1", x.says(1, 1), 99);
        Due.is("8: square, 81 and 81", x.says(2, 2), 162);
        Due.is("8: order, 954 less 459", x.says(3, 3), 495);
        Due.is("8: order as a take, 100 less 1", x.says(3, 1), 99);
        Due.is("8: times, 7 times 7 and 4", x.says(4, 4), 53);
        Due.is("8: told, all alike", x.says(5, 5), 0);
        x.value(5, 3, 8);
        x.value(5, 6, 8);
        x.value(5, 9, 40);
        Due.is("8: told, the greatest", x.says(5, 5), 9);
        Due.is("8: told as a square", x.says(5, 2), 80);
        x.base(9);
        Due.is("8: told, figures below base", x.says(5, 5), 3);
        x.base(2);
        Due.is("8: take in base 2, 1100100 less 10011", x.says(1, 1), 100 - 19);
        Due.is("8: square in base 2, four ones of 1100011", x.says(2, 2), 4);
        Due.is("8: times in base 2, 1001101", x.says(4, 4), 4);
        Due.is("8: order in base 2, 495 is 111101111", x.says(3, 3), 510 - 255);
        TurnedAbout y = new TurnedAbout();
        y.law(6, 3);
        y.show(0, 0);
        Due.is("8: cube, 1 and 8", y.says(0, 6), 9);
        Due.is("8: cube as a square, of 99", y.says(0, 2), 1458);
        Due.is("8: cube as a law", y.says(0, 0), 3);
    }

    private static void saysRefused() {
        boolean[][] under = new boolean[7][7];
        int[] parents = {-1, 0, 0, 1, 0, 2, 2};
        for (int kind = 0; kind < 7; kind++) {
            for (int above = kind; above != -1; above = parents[above]) {
                under[kind][above] = true;
            }
        }
        for (int kind = 0; kind < 7; kind++) {
            TurnedAbout x = new TurnedAbout();
            x.law(kind, 1);
            x.show(0, 0);
            for (int asked = 0; asked < 7; asked++) {
                boolean refused = x.says(0, asked) == -2;
                Due.holds("8: kind " + kind + " as one of " + asked, refused != under[kind][asked]);
            }
        }
        TurnedAbout x = new TurnedAbout();
        Due.is("8: nothing", x.says(0, 0), -3);
        Due.is("8: kind 7 ahead of nothing", x.says(0, 7), -1);
        Due.is("8: kind -1", x.says(0, -1), -1);
        Due.is("8: shelf 8", x.says(8, 0), -1);
        x.row(0, 0, 1);
        Due.is("8: a row", x.says(0, 0), -2);
        Due.is("8: refused", x.status(11) * 100 + x.status(12) * 10 + x.status(13), 311);
    }
}
