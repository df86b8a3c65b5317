/** Promises 15 to 32: known answers, edges and refusals. */
public final class NumbersTest {
    private static final int NONE = TurnedAbout.NONE;
    private static final long MOST = 999999999999999L;

    public static void main(String[] args) {
        known();
        edgesOfNumbers();
        edgesOfRuns();
        aboveMost();
        refusedNumbers();
        refusedRuns();
        refusedCounts();
        Due.end();
    }

    private static TurnedAbout withLaws() {
        TurnedAbout x = new TurnedAbout();
        int[] kinds = {0, 1, 2, 3, 4, 6};
        for (int kind : kinds) {
            x.law(kind, 0);
        }
        return x;
    }

    private static void known() {
        TurnedAbout x = withLaws();
        Due.is("15: 1200", x.turned(1200), 21);
        Due.is("16: sum of MOST", x.numberOf(MOST, 1), 135);
        Due.is("16: check of 124", x.numberOf(124, 3), (4 + 4 + 3) % 10);
        Due.is("19: 89", x.goes(0, 89), 24);
        Due.is("20: 89", x.comes(0, 89), 8813200023188L);
        Due.is("17: 2178 by TAKE", x.next(1, 8712), 6534);
        Due.is("21: 1089, 8712, then 6534 and 2178 by TAKE", x.round(1, 1089, 0), 2);
        Due.is("21: 6174 by ORDER", x.round(3, 3524, 2), 6174);
        Due.is("21: 3524 to 6174", x.round(3, 3524, 0), 3);
        Due.is("21: the happy round, least", x.round(2, 2, 2), 4);
        Due.is("21: the happy round, length", x.round(2, 2, 1), 8);
        Due.is("21: 2 comes to it", x.round(2, 2, 0), 1);
        Due.is("17: 153 by CUBE", x.next(5, 153), 153);
        Due.is("17: 25 by TIMES", x.next(4, 2005), 0);
        Due.is("28: 1 to MOST", x.waits(999999999999990L), 9);
        Due.is("28: 10 power 14", x.waits(100000000000000L), 1);
        Due.is("28: over a nine", x.waits(1992), 10);
        Due.is("28: a figure more", x.waits(9999), 0);
        Due.is("28: alike with a middle", x.waits(12922), 13031 - 12922);
        Due.is("29: by TAKE, ORDER and CUBE", x.fit(21, 9), 2 + 8 + 32);
        Due.is("30: 21 by TIMES in two goes", x.began(4, 7, 2, 0), 7);
        Due.is("31: 5 and 5", x.slip(5, 10), NONE);
        Due.is("31: no 1 ahead", x.slip(5, 0), 1);
        Due.is("31: the last figure", x.slip(196, 888), 0);
        Due.is("32: 22", x.missed(22), 1);
        Due.is("32: 12345", x.missed(12345), 1 + 1 + 4);
    }

    private static void edgesOfNumbers() {
        TurnedAbout x = withLaws();
        Due.is("15: 0", x.turned(0), 0);
        Due.is("15: MOST", x.turned(MOST), MOST);
        Due.is("16: figures of 0", x.numberOf(0, 0), 1);
        Due.is("16: 0 is alike", x.numberOf(0, 2), 1);
        Due.is("16: 10 is not", x.numberOf(10, 2), 0);
        Due.is("17: 0 by ORDER", x.next(3, 0), 0);
        Due.is("17: 0 by TIMES", x.next(4, 0), 0);
        Due.is("28: 0", x.waits(0), 0);
        Due.is("32: 0", x.missed(0), 0);
        x.base(2);
        Due.is("16: figures of MOST in 2", x.numberOf(MOST, 0), 50);
        Due.holds("15: TURNED above MOST", x.turned(MOST) == Plain.turned(MOST, 2));
        x.base(9);
        Due.is("15: above MOST in 9", x.turned(205891132094657L), Plain.turned(205891132094657L, 9));
        Due.is("17: TAKE above MOST in 9", x.next(1, 205891132094657L), -7);
        Due.is("17: ORDER above MOST in 9", x.next(3, 205891132094657L), -7);
        Due.is("28: none is left in 9", x.waits(MOST), -6);
        Due.is("32: no number above MOST in 9", x.missed(MOST), Plain.missed(MOST, 9));
    }

    private static void edgesOfRuns() {
        TurnedAbout x = withLaws();
        Due.is("18: none", x.after(0, 196, 0), 196);
        Due.is("18: 1000", x.after(3, 3524, 1000), 6174);
        Due.is("18: 1001", x.after(3, 3524, 1001), -6);
        Due.is("19: at once", x.goes(0, 7), 0);
        Due.is("20: at once", x.comes(0, 7), 7);
        Due.is("19: never", x.goes(0, 196), NONE);
        Due.is("20: never", x.comes(0, 196), -5);
        Due.is("22: itself", x.meet(0, 196, 196), 196);
        Due.is("22: never", x.meet(0, 196, 89), -5);
        Due.is("22: in the RUN of the other", x.meet(0, 887, 196), 887);
        TurnedAbout far = new TurnedAbout();
        far.base(2);
        far.law(0, 1);
        long at200 = far.after(0, 652, 200);
        long at201 = far.after(0, 652, 201);
        Due.is("22: place 200", far.meet(0, 652, at200), at200);
        Due.is("22: place 200 of the other", far.meet(0, at200, 652), at200);
        Due.is("22: place 201", far.meet(0, 652, at201), -5);
        Due.is("22: place 201 of the other", far.meet(0, at201, 652), -5);
        Due.is("23: of 0 by TAKE", x.source(1, 0, NONE), 9 + 10 + 90 + 90);
        Due.is("23: the first", x.source(1, 0, 0), 0);
        Due.is("23: the last", x.source(1, 0, 198), 9999);
        Due.is("23: no more", x.source(1, 0, 199), -5);
        Due.is("24: one", x.barren(0, 9998, 9998), 1);
        Due.is("24: 1098 and 8901", x.barren(0, 9999, 9999), 0);
        Due.is("24: one that has some", x.barren(0, 0, 0), 0);
        Due.is("25: below 1", x.longest(0, 1), 0);
        Due.is("25: below 2000", x.longest(0, 2000), 89);
        Due.is("26: one number", x.many(0, 89, 89, 24), 1);
        Due.is("26: 2000 of them", x.many(0, 0, 1999, 0), 10 + 9 + 90 + 10);
        Due.is("26: far ones", x.many(0, 2147483647, 2147483647, 0), 0);
        Due.is("27: below 1", x.rounds(2, 1), 1);
        Due.is("27: below 2", x.rounds(2, 2), 2);
        Due.is("27: below 500", x.rounds(2, 500), 3);
        TurnedAbout y = new TurnedAbout();
        y.law(5, 0);
        y.value(0, 1, 10);
        Due.is("25: of several the first (110, 20, 0)", y.longest(0, 2000), 110);
        Due.is("26: none at all", y.many(0, 10, 11, NONE), 1);
        TurnedAbout z = new TurnedAbout();
        z.law(4, 1);
        z.base(2);
        Due.is("25: 0 goes count", z.longest(0, 2), 0);
    }

    private static void aboveMost() {
        TurnedAbout x = withLaws();
        Due.is("17: LAW above MOST", x.next(0, MOST), -7);
        Due.is("18: behind the end", x.after(0, 196, 1000), -7);
        Due.is("21: a RUN that ends", x.round(0, 196, 0), -5);
        Due.is("19: ends ahead", x.goes(0, MOST - 1), NONE);
        Due.is("31: the sum is above MOST", x.slip(MOST, 999999999999998L), 15);
        Due.is("31: a told one can't be", x.slip(MOST, 1999999999999998L), -16);
        Due.is("29: none by LAW", x.fit(MOST, 0), 2 + 8);
    }

    private static void refusedNumbers() {
        long[] no = {-1, MOST + 1, Long.MIN_VALUE, Long.MAX_VALUE};
        for (long n : no) {
            TurnedAbout x = withLaws();
            Due.is("15: " + n, x.turned(n), -6);
            Due.is("16: " + n, x.numberOf(n, 3), -6);
            Due.is("16: another what first", x.numberOf(n, 4), -5);
            Due.is("17: " + n, x.next(0, n), -6);
            Due.is("18: " + n, x.after(0, n, 0), -6);
            Due.is("19: " + n, x.goes(0, n), -16);
            Due.is("20: " + n, x.comes(0, n), -6);
            Due.is("21: " + n, x.round(0, n, 2), -6);
            Due.is("21: another what first", x.round(0, n, 3), -5);
            Due.is("22: " + n, x.meet(0, n, 0), -6);
            Due.is("22: other " + n, x.meet(0, 0, n), -6);
            Due.is("23: " + n, x.source(0, n, NONE), -6);
            Due.is("23: no such i first", x.source(0, n, -2), -5);
            Due.is("28: " + n, x.waits(n), -6);
            Due.is("29: " + n, x.fit(n, 0), -6);
            Due.is("29: other " + n, x.fit(0, n), -6);
            Due.is("30: " + n, x.began(0, n, 1, NONE), -6);
            Due.is("30: no such i first", x.began(0, n, 1, -2), -5);
            Due.is("31: " + n, x.slip(n, 0), -16);
            Due.is("31: other " + n, x.slip(0, n), -16);
            Due.is("32: " + n, x.missed(n), -6);
            Due.is("refused -6", x.status(16), 17);
            Due.is("refused -5", x.status(15), 4);
        }
    }

    private static void refusedRuns() {
        int[] no = {-1, 6, Integer.MIN_VALUE, Integer.MAX_VALUE};
        for (int law : no) {
            TurnedAbout x = withLaws();
            Due.is("17: no law", x.next(law, -1), -1);
            Due.is("18: no law", x.after(law, -1, -1), -1);
            Due.is("19: no law", x.goes(law, -1), -11);
            Due.is("20: no law", x.comes(law, -1), -1);
            Due.is("21: no law", x.round(law, -1, 3), -1);
            Due.is("22: no law", x.meet(law, -1, -1), -1);
            Due.is("23: no law", x.source(law, -1, -2), -1);
            Due.is("24: no law", x.barren(law, -1, -1), -1);
            Due.is("25: no law", x.longest(law, 0), -11);
            Due.is("26: no law", x.many(law, -1, -1, -2), -1);
            Due.is("27: no law", x.rounds(law, 0), -1);
            Due.is("30: no law", x.began(law, -1, 0, -2), -1);
            Due.is("10 to 32: refused -1", x.status(11), 12);
        }
    }

    private static void refusedCounts() {
        TurnedAbout x = withLaws();
        Due.is("16: what -1", x.numberOf(5, -1), -5);
        Due.is("18: n -1", x.after(0, 5, -1), -6);
        Due.is("21: what -1", x.round(0, 0, -1), -5);
        Due.is("24: f -1", x.barren(0, -1, 5), -6);
        Due.is("24: t 10000", x.barren(0, 5, 10000), -6);
        Due.is("24: f above t", x.barren(0, 6, 5), -6);
        Due.is("25: 0", x.longest(0, 0), -16);
        Due.is("25: 2001", x.longest(0, 2001), -16);
        Due.is("26: 2001 of them", x.many(0, 5, 2005, 0), -6);
        Due.is("26: f below 0", x.many(0, -1, 5, 0), -6);
        Due.is("26: far apart", x.many(0, 0, Integer.MAX_VALUE, 0), -6);
        Due.is("26: f above t", x.many(0, 6, 5, 0), -6);
        Due.is("26: t far below", x.many(0, Integer.MAX_VALUE, Integer.MIN_VALUE, 0), -6);
        Due.is("26: g -2", x.many(0, 0, 5, -2), -6);
        Due.is("26: g 201", x.many(0, 0, 5, 201), -6);
        Due.is("26: g 200", x.many(0, 0, 5, 200), 0);
        Due.is("27: 0", x.rounds(0, 0), -6);
        Due.is("27: 501", x.rounds(0, 501), -6);
        Due.is("30: g 0", x.began(0, 0, 0, 0), -6);
        Due.is("30: g 21", x.began(0, 0, 21, 0), -6);
        Due.is("refused -5", x.status(15), 2);
        Due.is("refused -6", x.status(16), 17);
    }
}
