/**
 * Promises 1 to 12 and 15 to 45: the edges that each one names, and which refusal comes first if several fit.
 * Each promise has a test of its own; the edges that the terms name stand in TermsEdgesTest, those of texts
 * (promises 13 and 14) in TextsEdgesTest.
 */
public final class PromisesEdgesTest {
    private static final int NONE = TurnedAbout.NONE;
    private static final long MOST = 999999999999999L;
    private static final int LEAST_INT = Integer.MIN_VALUE;
    private static final int MOST_INT = Integer.MAX_VALUE;
    private static final int LAW = 0;
    private static final int TAKE = 1;
    private static final int SQUARE = 2;
    private static final int ORDER = 3;
    private static final int TOLD = 5;

    public static void main(String[] args) {
        newObject();
        row();
        set();
        copyRefused();
        copyEnds();
        element();
        show();
        holds();
        saysRefused();
        saysFirstOfSeveral();
        base();
        law();
        value();
        lawOf();
        turned();
        numberOf();
        next();
        after();
        goes();
        comes();
        round();
        meet();
        source();
        barren();
        longest();
        many();
        rounds();
        waits();
        fit();
        began();
        slip();
        missed();
        judge();
        laws();
        write();
        slate();
        on();
        wipe();
        lessons();
        seed();
        act();
        trace();
        image();
        restore();
        status();
        calls();
        Due.end();
    }

    private static TurnedAbout with(int... kinds) {
        TurnedAbout x = new TurnedAbout();
        for (int kind : kinds) {
            x.law(kind, 0);
        }
        return x;
    }

    /** Shelf 0 holds NOTHING, 1 four bytes, 2 four longs, 3 a LAW (place 0), 4 twenty-five longs. */
    private static TurnedAbout withShelves() {
        TurnedAbout x = with(LAW);
        x.row(1, 0, 4);
        x.row(2, 3, 4);
        x.show(3, 0);
        x.row(4, 3, 25);
        return x;
    }

    /** 1: BASE 10, no LAWS, an empty SLATE. */
    private static void newObject() {
        TurnedAbout x = new TurnedAbout();
        Due.is("1: BASE", x.status(2), 10);
        Due.is("1: no LAWS", x.status(0), 0);
        Due.is("1: an empty SLATE", x.status(1), 0);
        Due.is("1: SEED", x.status(3), 1);
        Due.is("1: no bodies", x.status(4), 0);
        Due.refusals("1", x);
        Due.is("1: a LAW of another object", with(LAW).status(0) + x.status(0), 1);
    }

    /** 2: -1; -4; -6 SORT; -7 n above 160. */
    private static void row() {
        TurnedAbout x = withShelves();
        Due.is("2: no shelf 8, -1 as size, sort 4", x.row(8, 4, -1), -1);
        Due.is("2: no shelf -1, 161", x.row(-1, 4, 161), -1);
        Due.is("2: size -1, sort 4", x.row(1, 4, -1), -4);
        Due.is("2: the least size", x.row(1, 0, LEAST_INT), -4);
        Due.is("2: sort 4, 161", x.row(1, 4, 161), -6);
        Due.is("2: sort -1", x.row(1, -1, 0), -6);
        Due.is("2: 161", x.row(1, 0, 161), -7);
        Due.is("2: the greatest size", x.row(1, 0, MOST_INT), -7);
        Due.is("2: nothing changed", x.set(1, 3, 1), 1);
        Due.is("2: 160", x.row(1, 3, 160), 1);
        Due.is("2: 0", x.row(1, 0, 0), 1);
        Due.is("2: in place of a LAW", x.row(3, 0, 1), 1);
        Due.is("2: a ROW now", x.holds(3), 100);
        Due.is("2: its element", x.set(3, 0, 1), 1);
        Due.refusals("2", x, 2, 0, 0, 2, 0, 2, 2);
    }

    /** 3: -1; -2; -3; -5. */
    private static void set() {
        TurnedAbout x = withShelves();
        Due.is("3: no shelf, no element", x.set(8, -1, 0), -1);
        Due.is("3: no shelf -1", x.set(-1, 0, 0), -1);
        Due.is("3: a LAW, no element", x.set(3, -1, 0), -2);
        Due.is("3: NOTHING, no element", x.set(0, -1, 0), -3);
        Due.is("3: element -1", x.set(1, -1, 0), -5);
        Due.is("3: element 4 of 4", x.set(1, 4, 0), -5);
        Due.is("3: the greatest", x.set(1, MOST_INT, 0), -5);
        Due.is("3: the first", x.set(1, 0, 5), 1);
        Due.is("3: the last", x.set(1, 3, 6), 1);
        Due.is("3: they are", x.element(1, 0) * 10 + x.element(1, 3), 56);
        Due.refusals("3", x, 2, 1, 1, 0, 3);
    }

    /** 4: -1; -2 also of two SORTS (when both hold something); -3 either; -4 n; -5. */
    private static void copyRefused() {
        TurnedAbout x = withShelves();
        Due.is("4: no shelf p, a LAW", x.copy(8, 3, -1, -1, -1), -1);
        Due.is("4: no shelf q, a LAW", x.copy(3, -1, -1, -1, -1), -1);
        Due.is("4: a LAW p, NOTHING q", x.copy(3, 0, -1, -1, -1), -2);
        Due.is("4: NOTHING p, a LAW q", x.copy(0, 3, -1, -1, -1), -2);
        Due.is("4: a LAW and a ROW", x.copy(3, 1, 0, 0, 1), -2);
        Due.is("4: two LAWS", x.copy(3, 3, 0, 0, 1), -2);
        Due.is("4: two SORTS", x.copy(1, 2, -1, -1, -1), -2);
        Due.is("4: NOTHING p and a ROW", x.copy(0, 1, -1, -1, -1), -3);
        Due.is("4: a ROW and NOTHING q", x.copy(1, 0, -1, -1, -1), -3);
        Due.is("4: NOTHING twice", x.copy(0, 0, -1, -1, -1), -3);
        Due.is("4: n -1, i, j -1", x.copy(1, 1, -1, -1, -1), -4);
        Due.is("4: the least n", x.copy(1, 1, 0, 0, LEAST_INT), -4);
        Due.is("4: i -1", x.copy(1, 1, -1, 0, 0), -5);
        Due.is("4: j -1", x.copy(1, 1, 0, -1, 0), -5);
        Due.refusals("4", x, 2, 5, 3, 2, 2);
    }

    /** 4: i, i + 1, .. n of them, come to j, j + 1, .. (as they were ahead); -5 an end that isn't there. */
    private static void copyEnds() {
        TurnedAbout x = withShelves();
        x.row(5, 0, 2);
        for (int i = 0; i < 4; i++) {
            x.set(1, i, i + 1);
        }
        Due.is("4: all to itself", x.copy(1, 1, 0, 0, 4), 1);
        Due.is("4: one more", x.copy(1, 1, 0, 0, 5), -5);
        Due.is("4: end of p", x.copy(1, 5, 3, 0, 2), -5);
        Due.is("4: end of q", x.copy(1, 5, 0, 1, 2), -5);
        Due.is("4: the greatest i", x.copy(1, 5, MOST_INT, 0, 1), -5);
        Due.is("4: the greatest j", x.copy(1, 5, 0, MOST_INT, 1), -5);
        Due.is("4: the greatest n", x.copy(1, 5, 1, 1, MOST_INT), -5);
        Due.is("4: the last two", x.copy(1, 5, 2, 0, 2), 1);
        Due.is("4: came", x.element(5, 0) * 10 + x.element(5, 1), 34);
        Due.is("4: none from the ends", x.copy(1, 5, 4, 2, 0), 1);
        Due.is("4: none from behind p", x.copy(1, 5, 5, 2, 0), -5);
        Due.is("4: none to behind q", x.copy(1, 5, 4, 3, 0), -5);
        Due.is("4: one up", x.copy(1, 1, 0, 1, 3), 1);
        Due.is("4: as they were ahead", x.element(1, 1) * 100 + x.element(1, 2) * 10 + x.element(1, 3), 123);
        Due.refusals("4", x, 0, 0, 0, 0, 8);
    }

    /** 5: 0 if there is none (nothing is refused). */
    private static void element() {
        TurnedAbout x = withShelves();
        x.set(1, 0, -5);
        x.set(1, 3, 9);
        Due.is("5: the first", x.element(1, 0), -5);
        Due.is("5: the last", x.element(1, 3), 9);
        Due.is("5: -1", x.element(1, -1), 0);
        Due.is("5: behind the last", x.element(1, 4), 0);
        Due.is("5: of a LAW", x.element(3, 0), 0);
        Due.is("5: of NOTHING", x.element(0, 0), 0);
        Due.is("5: of shelf -1", x.element(-1, 0), 0);
        Due.is("5: of shelf 8", x.element(8, 0), 0);
        Due.is("5: far", x.element(MOST_INT, LEAST_INT), 0);
        x.row(1, 0, 1);
        Due.is("5: of a shorter ROW", x.element(1, 3), 0);
        x.set(2, 1, 8);
        x.show(2, 0);
        Due.is("5: of a LAW where a ROW was", x.element(2, 1), 0);
        x.set(4, 1, 8);
        x.show(4, NONE);
        Due.is("5: of NOTHING where a ROW was", x.element(4, 1), 0);
        Due.refusals("5", x);
    }

    /** 6: SHELF s holds a LAW, or NOTHING (law NONE): 1, 0. -1. */
    private static void show() {
        TurnedAbout x = withShelves();
        Due.is("6: a LAW", x.show(0, 0), 1);
        Due.is("6: NOTHING", x.show(0, NONE), 0);
        Due.is("6: NOTHING again", x.show(0, NONE), 0);
        Due.is("6: NOTHING in place of a ROW", x.show(1, NONE), 0);
        Due.is("6: it is", x.holds(1), NONE);
        Due.is("6: no law 1", x.show(2, 1), -1);
        Due.is("6: no law -2", x.show(2, -2), -1);
        Due.is("6: no shelf 8", x.show(8, 0), -1);
        Due.is("6: NOTHING on no shelf", x.show(-1, NONE), -1);
        Due.is("6: nothing changed", x.holds(2), 103);
        Due.refusals("6", x, 4);
    }

    /** 7: NONE NOTHING, or no such SHELF; a LAW's place; 100 and the SORT of a ROW. */
    private static void holds() {
        TurnedAbout x = with(LAW, LAW, LAW, LAW, LAW, LAW);
        Due.is("7: NOTHING", x.holds(7), NONE);
        Due.is("7: no shelf 8", x.holds(8), NONE);
        Due.is("7: no shelf -1", x.holds(-1), NONE);
        x.show(7, 0);
        Due.is("7: place 0", x.holds(7), 0);
        x.show(7, 5);
        Due.is("7: place 5", x.holds(7), 5);
        x.row(7, 0, 0);
        Due.is("7: bytes", x.holds(7), 100);
        x.row(7, 3, 0);
        Due.is("7: longs", x.holds(7), 103);
        Due.refusals("7", x);
    }

    /** 8: -1 SHELF, KIND; -2 also a LAW of another KIND; -3. */
    private static void saysRefused() {
        TurnedAbout x = withShelves();
        Due.is("8: no shelf, no kind", x.says(8, 7), -1);
        Due.is("8: no shelf -1", x.says(-1, 0), -1);
        Due.is("8: NOTHING, kind 7", x.says(0, 7), -1);
        Due.is("8: a ROW, kind -1", x.says(1, -1), -1);
        Due.is("8: a ROW", x.says(1, 0), -2);
        Due.is("8: LAW for TAKE", x.says(3, 1), -2);
        Due.is("8: LAW for CUBE", x.says(3, 6), -2);
        Due.is("8: NOTHING", x.says(0, 0), -3);
        Due.is("8: NOTHING for CUBE", x.says(0, 6), -3);
        Due.is("8: LAW", x.says(3, 0), 0);
        Due.refusals("8", x, 4, 3, 2);
    }

    /** 8: TOLD the FIGURE below BASE of the greatest VALUE, of several the first. Detail: 100 is 100 in ten. */
    private static void saysFirstOfSeveral() {
        TurnedAbout x = with(TOLD, TAKE);
        x.show(0, 0);
        x.show(1, 1);
        Due.is("8: all 0", x.says(0, 5), 0);
        x.value(0, 9, 1);
        Due.is("8: the last", x.says(0, 5), 9);
        x.value(0, 4, 1);
        Due.is("8: of two the first", x.says(0, 5), 4);
        x.base(5);
        Due.is("8: 4 is below 5", x.says(0, 5), 4);
        x.base(4);
        Due.is("8: 4 is not below 4", x.says(0, 5), 0);
        Due.is("8: 100 is 1210 in 4, 100 less 25", x.says(1, 1), 75);
        x.base(10);
        Due.is("8: 100 less 1", x.says(1, 1), 99);
    }

    /** 9: what it was. -6. */
    private static void base() {
        TurnedAbout x = new TurnedAbout();
        Due.is("9: 10 at first", x.base(3), 10);
        Due.is("9: then 3", x.base(3), 3);
        Due.is("9: 1", x.base(1), -6);
        Due.is("9: 11", x.base(11), -6);
        Due.is("9: 3 still", x.status(2), 3);
        Due.refusals("9", x, 0, 0, 0, 0, 0, 2);
    }

    /** 10: its place. -1 KIND; -6; -7. */
    private static void law() {
        TurnedAbout x = with(LAW, LAW, LAW, LAW, LAW);
        Due.is("10: the sixth", x.law(6, 9), 5);
        Due.is("10: kind 7, a 10, no room", x.law(7, 10), -1);
        Due.is("10: kind -1, no room", x.law(-1, 0), -1);
        Due.is("10: a 10, no room", x.law(0, 10), -6);
        Due.is("10: a -1, no room", x.law(0, -1), -6);
        Due.is("10: no room", x.law(0, 0), -7);
        Due.is("10: six", x.status(0), 6);
        Due.refusals("10", x, 2, 0, 0, 0, 0, 2, 1);
    }

    /** 11: what it was. -1 LAW; -6 another KIND, FIGURE, v. */
    private static void value() {
        TurnedAbout x = with(TOLD, LAW, TAKE, SQUARE, ORDER, 6);
        Due.is("11: no law 6", x.value(6, 10, 1000), -1);
        Due.is("11: no law -1", x.value(-1, 10, 1000), -1);
        for (int law = 1; law < 6; law++) {
            Due.is("11: another KIND", x.value(law, 0, 1), -6);
        }
        Due.is("11: figure 10", x.value(0, 10, 1), -6);
        Due.is("11: figure -1", x.value(0, -1, 1), -6);
        Due.is("11: v 1000", x.value(0, 0, 1000), -6);
        Due.is("11: v -1", x.value(0, 0, -1), -6);
        Due.is("11: 0 at first", x.value(0, 0, 999), 0);
        Due.is("11: what it was", x.value(0, 0, 0), 999);
        Due.refusals("11", x, 2, 0, 0, 0, 0, 9);
    }

    /** 12: 0 KIND, 1 a, 10 and a FIGURE: its VALUE (of one that isn't TOLD 0). -5: no such one, another what. */
    private static void lawOf() {
        TurnedAbout x = with(TOLD, SQUARE);
        x.value(0, 0, 7);
        x.value(0, 9, 8);
        Due.is("12: KIND", x.lawOf(0, 0), 5);
        Due.is("12: a", x.lawOf(0, 1), 0);
        Due.is("12: VALUE of 0", x.lawOf(0, 10), 7);
        Due.is("12: VALUE of 9", x.lawOf(0, 19), 8);
        Due.is("12: not TOLD, 0", x.lawOf(1, 10), 0);
        Due.is("12: not TOLD, 9", x.lawOf(1, 19), 0);
        int[] others = {-1, 2, 9, 20, LEAST_INT, MOST_INT};
        for (int what : others) {
            Due.is("12: what " + what, x.lawOf(0, what), -5);
        }
        Due.is("12: no law 2", x.lawOf(2, 0), -5);
        Due.is("12: no law -1", x.lawOf(-1, 0), -5);
        Due.refusals("12", x, 0, 0, 0, 0, 8);
    }

    /** 15: -6. */
    private static void turned() {
        TurnedAbout x = new TurnedAbout();
        Due.is("15: -1", x.turned(-1), -6);
        Due.is("15: above MOST", x.turned(MOST + 1), -6);
        Due.is("15: the least", x.turned(Long.MIN_VALUE), -6);
        Due.is("15: the greatest", x.turned(Long.MAX_VALUE), -6);
        Due.is("15: 32 bits alone are 0", x.turned(1L << 50), -6);
        Due.refusals("15", x, 0, 0, 0, 0, 0, 5);
    }

    /** 16: how many FIGURES (0), their sum (1), ALIKE (2), CHECK (3). -5 another what; -6. */
    private static void numberOf() {
        TurnedAbout x = new TurnedAbout();
        int[] of0 = {1, 0, 1, 0};
        int[] of10 = {2, 1, 0, 2};
        int[] ofMost = {15, 135, 1, 0};
        for (int what = 0; what < 4; what++) {
            Due.is("16: of 0, " + what, x.numberOf(0, what), of0[what]);
            Due.is("16: of 10, " + what, x.numberOf(10, what), of10[what]);
            Due.is("16: of MOST, " + what, x.numberOf(MOST, what), ofMost[what]);
        }
        Due.is("16: what 4, no number", x.numberOf(-1, 4), -5);
        Due.is("16: what -1, no number", x.numberOf(MOST + 1, -1), -5);
        Due.is("16: what 4", x.numberOf(0, 4), -5);
        Due.is("16: -1", x.numberOf(-1, 3), -6);
        Due.is("16: above MOST", x.numberOf(MOST + 1, 0), -6);
        Due.refusals("16", x, 0, 0, 0, 0, 3, 2);
    }

    /** 17: -1; -6; -7 there is none. */
    private static void next() {
        TurnedAbout x = with(LAW);
        Due.is("17: no law 1, no number", x.next(1, -1), -1);
        Due.is("17: no law -1", x.next(-1, 5), -1);
        Due.is("17: -1", x.next(0, -1), -6);
        Due.is("17: above MOST", x.next(0, MOST + 1), -6);
        Due.is("17: there is none", x.next(0, MOST), -7);
        Due.refusals("17", x, 2, 0, 0, 0, 0, 2, 1);
    }

    /** 18: the number behind n goes (0 to 1000). -1; -6; -7 there is none. */
    private static void after() {
        TurnedAbout x = with(LAW, SQUARE);
        Due.is("18: no law, no number", x.after(2, -1, -1), -1);
        Due.is("18: -1", x.after(0, -1, 0), -6);
        Due.is("18: above MOST", x.after(0, MOST + 1, 1001), -6);
        Due.is("18: n -1", x.after(0, 5, -1), -6);
        Due.is("18: n 1001, there is none, either", x.after(0, MOST, 1001), -6);
        Due.is("18: there is none", x.after(0, MOST, 1), -7);
        Due.is("18: n 0", x.after(0, MOST, 0), MOST);
        // 4, 16, 37, 58, 89, 145, 42, 20: 1000 is 125 times round
        Due.is("18: n 1000", x.after(1, 4, 1000), 4);
        Due.is("18: n 999", x.after(1, 4, 999), 20);
        Due.refusals("18", x, 1, 0, 0, 0, 0, 4, 1);
    }

    /** 19: GOES; NONE. -11; -16 (counted as -1, -6). */
    private static void goes() {
        TurnedAbout x = with(LAW);
        Due.is("19: no law, no number", x.goes(1, -1), -11);
        Due.is("19: no law -1", x.goes(-1, 5), -11);
        Due.is("19: -1", x.goes(0, -1), -16);
        Due.is("19: above MOST", x.goes(0, MOST + 1), -16);
        Due.is("19: NONE is no refusal", x.goes(0, 196), NONE);
        Due.is("19: MOST", x.goes(0, MOST), 0);
        Due.refusals("19", x, 2, 0, 0, 0, 0, 2);
    }

    /** 20: -1; -5 none; -6. */
    private static void comes() {
        TurnedAbout x = with(LAW);
        Due.is("20: no law, no number", x.comes(1, -1), -1);
        Due.is("20: none", x.comes(0, 196), -5);
        Due.is("20: -1", x.comes(0, -1), -6);
        Due.is("20: above MOST", x.comes(0, MOST + 1), -6);
        Due.is("20: 0", x.comes(0, 0), 0);
        Due.refusals("20", x, 1, 0, 0, 0, 1, 2);
    }

    /** 21: its place (0), how long (1), the least number (2). -1; -5 none, another what; -6. */
    private static void round() {
        TurnedAbout x = with(LAW, SQUARE);
        Due.is("21: no law, what 3, no number", x.round(2, -1, 3), -1);
        Due.is("21: none", x.round(0, 196, 0), -5);
        Due.is("21: what 3, no number", x.round(1, -1, 3), -5);
        Due.is("21: what -1", x.round(1, 4, -1), -5);
        Due.is("21: what 3", x.round(1, 4, 3), -5);
        Due.is("21: -1", x.round(1, -1, 0), -6);
        Due.is("21: above MOST", x.round(1, MOST + 1, 2), -6);
        Due.is("21: place", x.round(1, 2, 0), 1);
        Due.is("21: how long", x.round(1, 2, 1), 8);
        Due.is("21: the least", x.round(1, 2, 2), 4);
        Due.refusals("21", x, 1, 0, 0, 0, 4, 2);
    }

    /** 22: -1; -5 they don't; -6. */
    private static void meet() {
        TurnedAbout x = with(LAW);
        Due.is("22: no law, no numbers", x.meet(1, -1, -1), -1);
        Due.is("22: they don't", x.meet(0, 196, 89), -5);
        Due.is("22: x -1", x.meet(0, -1, 89), -6);
        Due.is("22: y -1", x.meet(0, 89, -1), -6);
        Due.is("22: x above MOST", x.meet(0, MOST + 1, 89), -6);
        Due.is("22: y above MOST", x.meet(0, 89, MOST + 1), -6);
        Due.is("22: neither may be", x.meet(0, -1, -1), -6);
        Due.is("22: MOST", x.meet(0, MOST, MOST), MOST);
        Due.refusals("22", x, 1, 0, 0, 0, 1, 5);
    }

    /** 23: how many (i NONE), the i-th. -1; -5 no such i; -6. */
    private static void source() {
        TurnedAbout x = with(LAW);
        Due.is("23: no law, i -2, no number", x.source(1, -1, -2), -1);
        Due.is("23: i -2, no number", x.source(0, -1, -2), -5);
        Due.is("23: i -2", x.source(0, 33, -2), -5);
        Due.is("23: i 3 of 3", x.source(0, 33, 3), -5);
        Due.is("23: i 0 of none", x.source(0, 1, 0), -5);
        Due.is("23: the greatest i", x.source(0, 33, MOST_INT), -5);
        Due.is("23: -1", x.source(0, -1, NONE), -6);
        Due.is("23: above MOST", x.source(0, MOST + 1, NONE), -6);
        Due.is("23: i NONE of none", x.source(0, 1, NONE), 0);
        Due.is("23: i 2 of 3", x.source(0, 33, 2), 30);
        Due.refusals("23", x, 1, 0, 0, 0, 5, 2);
    }

    /** 24: -1; -6 f, t. */
    private static void barren() {
        TurnedAbout x = with(LAW);
        Due.is("24: no law, f -1", x.barren(1, -1, 10000), -1);
        Due.is("24: f -1", x.barren(0, -1, 5), -6);
        Due.is("24: f and t -1", x.barren(0, -1, -1), -6);
        Due.is("24: t 10000", x.barren(0, 5, 10000), -6);
        Due.is("24: f and t 10000", x.barren(0, 10000, 10000), -6);
        Due.is("24: f above t", x.barren(0, 6, 5), -6);
        Due.is("24: far apart", x.barren(0, LEAST_INT, MOST_INT), -6);
        Due.is("24: 0 alone", x.barren(0, 0, 0), 0);
        Due.is("24: 1 alone", x.barren(0, 1, 1), 1);
        Due.is("24: 9998 alone", x.barren(0, 9998, 9998), 1);
        Due.is("24: 9999 alone", x.barren(0, 9999, 9999), 0);
        Due.refusals("24", x, 1, 0, 0, 0, 0, 6);
    }

    /** 25: LONGEST; NONE. -11; -16 (counted as -1, -6). */
    private static void longest() {
        TurnedAbout x = with(LAW);
        Due.is("25: no law, n 0", x.longest(1, 0), -11);
        Due.is("25: n 0", x.longest(0, 0), -16);
        Due.is("25: n -1", x.longest(0, -1), -16);
        Due.is("25: n 2001", x.longest(0, 2001), -16);
        Due.is("25: n 1", x.longest(0, 1), 0);
        Due.is("25: n 2000", x.longest(0, 2000), 89);
        Due.refusals("25", x, 1, 0, 0, 0, 0, 3);
    }

    /** 26: -1; -6 f, t, g below NONE or above 200. */
    private static void many() {
        TurnedAbout x = with(LAW);
        Due.is("26: no law, f -1", x.many(1, -1, -1, -2), -1);
        Due.is("26: f -1", x.many(0, -1, 5, 0), -6);
        Due.is("26: f above t", x.many(0, 6, 5, 0), -6);
        Due.is("26: 2001 of them", x.many(0, 1, 2001, 0), -6);
        Due.is("26: far apart", x.many(0, 0, MOST_INT, 0), -6);
        Due.is("26: the least and the greatest", x.many(0, LEAST_INT, MOST_INT, 0), -6);
        Due.is("26: the greatest and the least", x.many(0, MOST_INT, LEAST_INT, 0), -6);
        Due.is("26: g -2", x.many(0, 0, 5, -2), -6);
        Due.is("26: g 201", x.many(0, 0, 5, 201), -6);
        Due.is("26: g NONE", x.many(0, 196, 196, NONE), 1);
        Due.is("26: g NONE of one that comes", x.many(0, 195, 195, NONE), 0);
        Due.is("26: g 200", x.many(0, 0, 5, 200), 0);
        Due.is("26: the greatest t", x.many(0, MOST_INT - 1999, MOST_INT, 0), 0);
        Due.is("26: a far one", x.many(0, 2147447412, 2147447412, 0), 1);
        Due.refusals("26", x, 1, 0, 0, 0, 0, 8);
    }

    /** 27: -1; -6. */
    private static void rounds() {
        TurnedAbout x = with(SQUARE);
        Due.is("27: no law, n 0", x.rounds(1, 0), -1);
        Due.is("27: n 0", x.rounds(0, 0), -6);
        Due.is("27: n -1", x.rounds(0, -1), -6);
        Due.is("27: n 501", x.rounds(0, 501), -6);
        Due.is("27: n 1", x.rounds(0, 1), 1);
        Due.is("27: n 500", x.rounds(0, 500), 3);
        Due.refusals("27", x, 1, 0, 0, 0, 0, 3);
    }

    /** 28: -6 also if none is left up to MOST. */
    private static void waits() {
        TurnedAbout x = new TurnedAbout();
        Due.is("28: -1", x.waits(-1), -6);
        Due.is("28: above MOST", x.waits(MOST + 1), -6);
        Due.is("28: MOST", x.waits(MOST), 0);
        Due.is("28: from the alike one ahead of it on", x.waits(999999989999999L), 0);
        Due.is("28: from behind that on", x.waits(999999990000000L), 9999999);
        Due.refusals("28", x, 0, 0, 0, 0, 0, 2);
        for (int base = 2; base < 10; base++) {
            TurnedAbout y = new TurnedAbout();
            y.base(base);
            long last = lastAlike(base);
            Due.is("28: the last one in " + base, y.waits(last), 0);
            Due.is("28: to the last one in " + base, y.waits(last - 1), 1);
            Due.is("28: behind the last one in " + base, y.waits(last + 1), -6);
            Due.is("28: none left in " + base, y.waits(MOST), -6);
            Due.refusals("28", y, 0, 0, 0, 0, 0, 2);
        }
    }

    /** The front half of MOST's figures, or one less, and the same the other way about. */
    private static long lastAlike(int base) {
        String most = Plain.figures(MOST, base);
        long front = Long.parseLong(most.substring(0, (most.length() + 1) / 2), base);
        long alike = MOST + 1;
        while (alike > MOST) {
            String head = Plain.figures(front, base);
            String back = new StringBuilder(head.substring(0, most.length() / 2)).reverse().toString();
            alike = Long.parseLong(head + back, base);
            front--;
        }
        return alike;
    }

    /** 29: -6. */
    private static void fit() {
        TurnedAbout x = with(LAW);
        Due.is("29: x -1", x.fit(-1, 0), -6);
        Due.is("29: y -1", x.fit(0, -1), -6);
        Due.is("29: x above MOST", x.fit(MOST + 1, 0), -6);
        Due.is("29: y above MOST", x.fit(MOST, MOST + MOST), -6);
        Due.is("29: no NEXT is no -1", x.fit(MOST, -1), -6);
        Due.is("29: 0", x.fit(0, 0), 1);
        Due.refusals("29", x, 0, 0, 0, 0, 0, 5);
    }

    /** 30: how many (i NONE), the i-th. -1; -5 no such i; -6. */
    private static void began() {
        TurnedAbout x = with(LAW);
        Due.is("30: no law, i -2, no number", x.began(1, -1, 0, -2), -1);
        Due.is("30: i -2, no number, g 0", x.began(0, -1, 0, -2), -5);
        Due.is("30: i 3 of 3", x.began(0, 66, 2, 3), -5);
        Due.is("30: i 0 of none", x.began(0, 1, 1, 0), -5);
        Due.is("30: the greatest i", x.began(0, 66, 2, MOST_INT), -5);
        Due.is("30: -1", x.began(0, -1, 1, NONE), -6);
        Due.is("30: above MOST", x.began(0, MOST + 1, 1, NONE), -6);
        Due.is("30: g 0", x.began(0, 66, 0, NONE), -6);
        Due.is("30: g 21", x.began(0, 66, 21, NONE), -6);
        Due.is("30: g 1", x.began(0, 66, 1, NONE), Plain.law(10, LAW, 0).began(66, 1).size());
        Due.is("30: g 20", x.began(0, 0, 20, NONE), 1);
        Due.is("30: i NONE of none", x.began(0, 1, 1, NONE), 0);
        Due.refusals("30", x, 1, 0, 0, 0, 4, 4);
    }

    /** 31: NONE. -16 (counted as -6). */
    private static void slip() {
        TurnedAbout x = new TurnedAbout();
        Due.is("31: x -1", x.slip(-1, 0), -16);
        Due.is("31: sum -1", x.slip(0, -1), -16);
        Due.is("31: x above MOST", x.slip(MOST + 1, 0), -16);
        Due.is("31: sum above MOST", x.slip(0, MOST + 1), -16);
        Due.is("31: NONE is no refusal", x.slip(12, 33), NONE);
        Due.is("31: MOST told of 0", x.slip(0, MOST), 0);
        Due.refusals("31", x, 0, 0, 0, 0, 0, 4);
    }

    /** 32: -6. */
    private static void missed() {
        TurnedAbout x = new TurnedAbout();
        Due.is("32: -1", x.missed(-1), -6);
        Due.is("32: above MOST", x.missed(MOST + 1), -6);
        Due.is("32: 0", x.missed(0), 0);
        Due.is("32: MOST", x.missed(MOST), Plain.missed(MOST, 10));
        Due.refusals("32", x, 0, 0, 0, 0, 0, 2);
    }

    /** 33: n elements (1 to 20). -11 also the LAW; -12; -13; -14 n below 0; -15 fewer elements; -16 n. */
    private static void judge() {
        TurnedAbout x = withShelves();
        Due.is("33: no law 1, no shelf", x.judge(1, 8, -1), -11);
        Due.is("33: no law -1, a LAW", x.judge(-1, 3, -1), -11);
        Due.is("33: no shelf 8, n -1", x.judge(0, 8, -1), -11);
        Due.is("33: no shelf -1", x.judge(0, -1, 1), -11);
        Due.is("33: a LAW, n -1", x.judge(0, 3, -1), -12);
        Due.is("33: NOTHING, n -1", x.judge(0, 0, -1), -13);
        Due.is("33: n -1", x.judge(0, 2, -1), -14);
        Due.is("33: n 5 of 4", x.judge(0, 2, 5), -15);
        Due.is("33: n 21 of 4", x.judge(0, 2, 21), -15);
        Due.is("33: n 26 of 25", x.judge(0, 4, 26), -15);
        Due.is("33: n 21 of 25", x.judge(0, 4, 21), -16);
        Due.is("33: n 0", x.judge(0, 4, 0), -16);
        Due.is("33: n 1", x.judge(0, 4, 1), NONE);
        Due.is("33: n 20", x.judge(0, 4, 20), NONE);
        Due.is("33: n 4 of 4", x.judge(0, 2, 4), NONE);
        x.set(4, 19, 1);
        Due.is("33: place 19", x.judge(0, 4, 20), 19);
        x.row(5, 3, 0);
        Due.is("33: n 1 of 0", x.judge(0, 5, 1), -15);
        Due.is("33: n 0 of 0", x.judge(0, 5, 0), -16);
        Due.refusals("33", x, 4, 1, 1, 1, 4, 3);
    }

    /** 34: -1; -2; -3; -4; -5; -6 likewise. */
    private static void laws() {
        TurnedAbout x = withShelves();
        Due.is("34: no shelf 8, n -1", x.laws(8, -1), -1);
        Due.is("34: no shelf -1", x.laws(-1, 1), -1);
        Due.is("34: a LAW, n -1", x.laws(3, -1), -2);
        Due.is("34: NOTHING, n -1", x.laws(0, -1), -3);
        Due.is("34: n -1", x.laws(2, -1), -4);
        Due.is("34: n 5 of 4", x.laws(2, 5), -5);
        Due.is("34: n 21 of 4", x.laws(2, 21), -5);
        Due.is("34: n 21 of 25", x.laws(4, 21), -6);
        Due.is("34: n 0", x.laws(4, 0), -6);
        Due.is("34: n 1", x.laws(4, 1), 1);
        Due.is("34: n 20", x.laws(4, 20), 1);
        TurnedAbout none = new TurnedAbout();
        none.row(0, 0, 1);
        Due.is("34: no LAWS", none.laws(0, 1), 0);
        Due.refusals("34", x, 2, 1, 1, 1, 2, 2);
    }

    /** 35: how many there are. -6; -7. */
    private static void write() {
        TurnedAbout x = new TurnedAbout();
        for (int i = 1; i <= 20; i++) {
            Due.is("35: how many", x.write(0), i);
        }
        Due.is("35: -1, no room", x.write(-1), -6);
        Due.is("35: above MOST, no room", x.write(MOST + 1), -6);
        Due.is("35: no room", x.write(MOST), -7);
        Due.is("35: twenty", x.status(1), 20);
        Due.refusals("35", x, 0, 0, 0, 0, 0, 2, 1);
    }

    /** 36: -5. */
    private static void slate() {
        TurnedAbout x = new TurnedAbout();
        Due.is("36: none", x.slate(0), -5);
        x.write(7);
        Due.is("36: the first", x.slate(0), 7);
        Due.is("36: the second", x.slate(1), -5);
        Due.is("36: -1", x.slate(-1), -5);
        Due.is("36: the greatest", x.slate(MOST_INT), -5);
        x.wipe(1);
        Due.is("36: gone", x.slate(0), -5);
        Due.refusals("36", x, 0, 0, 0, 0, 5);
    }

    /** 37: n goes (1 to 20), as long as there is room and NEXT: how many. -1; -6 n, THE SLATE is empty. */
    private static void on() {
        TurnedAbout x = with(LAW, ORDER);
        Due.is("37: no law, n 0, empty", x.on(2, 0), -1);
        Due.is("37: empty", x.on(0, 1), -6);
        x.write(495);
        Due.is("37: n 0", x.on(1, 0), -6);
        Due.is("37: n 21", x.on(1, 21), -6);
        Due.is("37: n -1", x.on(1, -1), -6);
        Due.is("37: n 1", x.on(1, 1), 1);
        Due.is("37: n 20, room for 18", x.on(1, 20), 18);
        Due.is("37: no room", x.on(1, 1), 0);
        x.wipe(19);
        Due.is("37: n 19, room for 19", x.on(1, 19), 19);
        x.wipe(20);
        x.write(400000000000003L);
        Due.is("37: NEXT once", x.on(0, 20), 1);
        Due.is("37: no NEXT", x.on(0, 20), 0);
        Due.is("37: two numbers", x.status(1), 2);
        Due.refusals("37", x, 1, 0, 0, 0, 0, 4);
    }

    /** 38: the last n (0 to 20) go, all, if there are fewer: how many are left. -6. */
    private static void wipe() {
        TurnedAbout x = new TurnedAbout();
        Due.is("38: none there, 0", x.wipe(0), 0);
        Due.is("38: none there, 20", x.wipe(20), 0);
        for (int i = 0; i < 20; i++) {
            x.write(i);
        }
        Due.is("38: -1", x.wipe(-1), -6);
        Due.is("38: 21", x.wipe(21), -6);
        Due.is("38: 0", x.wipe(0), 20);
        Due.is("38: 1", x.wipe(1), 19);
        Due.is("38: the last went", x.slate(18), 18);
        Due.is("38: 18", x.wipe(18), 1);
        Due.is("38: fewer than 2", x.wipe(2), 0);
        for (int i = 0; i < 20; i++) {
            x.write(i);
        }
        Due.is("38: all 20", x.wipe(20), 0);
        Due.refusals("38", x, 0, 0, 0, 0, 0, 2);
    }

    /** 39: n LESSONS (1 to 9). -5 no LAWS; -6. */
    private static void lessons() {
        TurnedAbout x = new TurnedAbout();
        x.write(5);
        Due.is("39: no LAWS, n 0", x.lessons(0), -5);
        Due.is("39: no LAWS", x.lessons(1), -5);
        x.law(ORDER, 0);
        Due.is("39: n 0", x.lessons(0), -6);
        Due.is("39: n 10", x.lessons(10), -6);
        Due.is("39: n -1", x.lessons(-1), -6);
        Due.is("39: nothing drawn", x.status(3), 1);
        Due.is("39: THE SLATE stays", x.slate(0), 5);
        int drawn = 1;
        for (int i = 0; i < 18; i++) {
            drawn = drawn * 1103515245 + 12345;
        }
        x.lessons(9);
        Due.is("39: n 9 draws 18 times", x.status(3), drawn);
        Due.refusals("39", x, 0, 0, 0, 0, 2, 3);
    }

    /** 40: SEED becomes v: what it was (nothing is refused). */
    private static void seed() {
        TurnedAbout x = new TurnedAbout();
        int[] seeds = {1, 0, -1, LEAST_INT, MOST_INT, 5};
        for (int i = 1; i < seeds.length; i++) {
            Due.is("40: what it was", x.seed(seeds[i]), seeds[i - 1]);
            Due.is("40: what it is", x.status(3), seeds[i]);
        }
        Due.refusals("40", x);
    }

    /** 41: 0, and no TRACE then: no such LAW, act. */
    private static void act() {
        TurnedAbout x = with(LAW);
        int[][] no = {{1, 0}, {-1, 0}, {0, 3}, {0, -1}, {6, 2}, {LEAST_INT, MOST_INT}};
        for (int[] call : no) {
            Due.is("41: reads", x.act(0, 2, 7), 14 ^ 7);
            Due.is("41: its bodies", x.status(4), 4);
            Due.is("41: none", x.act(call[0], call[1], 7), 0);
            Due.is("41: no TRACE", x.trace(0), NONE);
            Due.is("41: no bodies", x.status(4), 0);
        }
        Due.refusals("41", x);
    }

    /** 42: THE TRACE's i-th body. NONE: none such. */
    private static void trace() {
        TurnedAbout x = with(6);
        Due.is("42: none yet", x.trace(0), NONE);
        x.act(0, 2, 1);
        int[] want = {12, 71, 30, 11, 70, 10, 70, 10, NONE};
        for (int i = 0; i < want.length; i++) {
            Due.is("42: in the order in which they began", x.trace(i), want[i]);
        }
        int[] no = {-1, 19, 20, 21, LEAST_INT, MOST_INT};
        for (int i : no) {
            Due.is("42: none " + i, x.trace(i), NONE);
        }
        x.act(0, 0, 1);
        Due.is("42: of the latest act alone", x.trace(2), NONE);
        Due.refusals("42", x);
    }

    /** 43: THE IMAGE of all but SHELVES (and THE IMAGE, REFUSALS, the FAULT, THE TRACE): how many LAWS. */
    private static void image() {
        TurnedAbout x = new TurnedAbout();
        Due.is("43: no LAWS", x.image(), 0);
        x.law(TOLD, 3);
        x.value(0, 9, 999);
        x.base(2);
        x.seed(-7);
        x.write(MOST);
        Due.is("43: one", x.image(), 1);
        Due.is("43: nothing changed", x.lawOf(0, 19), 999);
        x.value(0, 9, 1);
        x.law(LAW, 0);
        x.base(3);
        x.seed(8);
        x.wipe(1);
        x.write(5);
        x.write(6);
        Due.is("43: LAWS", x.restore(), 1);
        Due.is("43: no second LAW", x.next(1, 1), -1);
        Due.is("43: VALUES", x.lawOf(0, 19), 999);
        Due.is("43: BASE", x.status(2), 2);
        Due.is("43: SEED", x.status(3), -7);
        Due.is("43: how many numbers", x.status(1), 1);
        Due.is("43: THE SLATE", x.slate(0), MOST);
    }

    /** 44: SHELVES with LAWS hold those of these places, or NOTHING: how many LAWS. -6 there is none. */
    private static void restore() {
        TurnedAbout x = with(LAW);
        Due.is("44: there is none", x.restore(), -6);
        x.image();
        x.law(SQUARE, 0);
        x.law(TOLD, 0);
        x.show(0, 0);
        x.show(1, 1);
        x.show(7, 2);
        x.row(2, 1, 3);
        x.set(2, 2, 9);
        x.turned(-1);
        x.act(1, 1, 4);
        Due.is("44: how many LAWS", x.restore(), 1);
        Due.is("44: place 0", x.holds(0), 0);
        Due.is("44: place 1 isn't there", x.holds(1), NONE);
        Due.is("44: place 2 isn't there", x.holds(7), NONE);
        Due.is("44: a ROW stays", x.holds(2), 101);
        Due.is("44: its elements stay", x.element(2, 2), 9);
        Due.is("44: THE TRACE stays", x.trace(0), 30);
        Due.is("44: bodies stay", x.status(4), 3);
        x.law(TAKE, 0);
        Due.is("44: a new LAW doesn't come back to the SHELF", x.holds(1), NONE);
        Due.is("44: again, and again from the same", x.restore(), 1);
        Due.refusals("44", x, 0, 0, 0, 0, 0, 2);
        TurnedAbout none = new TurnedAbout();
        none.image();
        none.law(LAW, 0);
        none.show(0, 0);
        Due.is("44: no LAWS", none.restore(), 0);
        Due.is("44: place 0 isn't there", none.holds(0), NONE);
        // a SHELF whose LAW another one has taken the place of holds the one of this place
        TurnedAbout y = with(LAW);
        y.image();
        y.law(SQUARE, 0);
        y.image();
        y.restore();
        y.show(0, 1);
        Due.is("44: SQUARE at place 1", y.says(0, 2), 162);
        y.restore();
        Due.is("44: still", y.says(0, 2), 162);
    }

    /** 45: NONE for another what. */
    private static void status() {
        TurnedAbout x = with(LAW, TAKE);
        x.write(1);
        x.base(9);
        x.seed(77);
        x.act(0, 1, 1);
        int[] wants = {2, 1, 9, 77, 2};
        for (int what = 0; what < wants.length; what++) {
            Due.is("45: what " + what, x.status(what), wants[what]);
        }
        int[] others = {-1, 5, 6, 9, 10, 18, 19, LEAST_INT, MOST_INT};
        for (int what : others) {
            Due.is("45: what " + what, x.status(what), NONE);
        }
        Due.refusals("45: none yet", x);
        x.holds(-1);
        x.show(9, 0);
        x.text(0);
        x.row(0, 0, 1);
        x.laws(0, -1);
        x.laws(0, 2);
        x.laws(0, 0);
        x.row(0, 0, 161);
        x.show(0, 0);
        x.text(0);
        Due.refusals("45: one each", x, 1, 1, 1, 1, 1, 1, 1);
        x.goes(-1, 0);
        x.longest(0, 0);
        x.slip(-1, 0);
        x.judge(0, 0, 1);
        x.judge(0, 1, 1);
        Due.refusals("45: -11 to -16, too", x, 2, 2, 2, 1, 1, 3, 1);
    }

    /** An object is used for at most 512 calls after it has been made. */
    private static void calls() {
        TurnedAbout x = new TurnedAbout();
        for (int i = 0; i < 511; i++) {
            x.next(i, i);
        }
        Due.is("the 512th call", x.status(11), 511);
    }
}
