import java.util.HashSet;
import java.util.Set;

/**
 * The document's terms, blocks 1 to 3, REFUSALS and Details: a test of its own for each sentence that names an
 * edge. The sentence stands above its test.
 */
public final class TermsEdgesTest {
    private static final int NONE = TurnedAbout.NONE;
    private static final long MOST = 999999999999999L;
    private static final int LAW = 0;
    private static final int TAKE = 1;
    private static final int SQUARE = 2;
    private static final int ORDER = 3;
    private static final int TIMES = 4;
    private static final int TOLD = 5;
    private static final int CUBE = 6;

    public static void main(String[] args) {
        numbers();
        laws();
        nexts();
        slates();
        runs();
        whatComes();
        slipsAndChecks();
        toldSlates();
        drawsAndLessons();
        shelves();
        bodies();
        Due.end();
    }

    private static TurnedAbout with(int kind, int a) {
        TurnedAbout x = new TurnedAbout();
        x.law(kind, a);
        return x;
    }

    private static TurnedAbout inBase(int base, int kind, int a) {
        TurnedAbout x = with(kind, a);
        x.base(base);
        return x;
    }

    // ==== 1. NUMBERS AND LAWS

    private static void numbers() {
        baseFrom2To10();
        numbersUpToMost();
        noNoughtsAhead();
        noughtsDropped();
        alike();
    }

    /** BASE (2 to 10; 10 at first). */
    private static void baseFrom2To10() {
        TurnedAbout x = new TurnedAbout();
        Due.is("BASE at first", x.status(2), 10);
        for (int base = 2; base <= 10; base++) {
            Due.is("BASE " + base, x.base(base), base == 2 ? 10 : base - 1);
        }
        int[] no = {1, 0, -1, 11, Integer.MIN_VALUE, Integer.MAX_VALUE};
        for (int base : no) {
            Due.is("BASE " + base, x.base(base), -6);
        }
        Due.is("BASE stays", x.status(2), 10);
        Due.refusals("BASE", x, 0, 0, 0, 0, 0, 6);
    }

    /** NUMBERS are 0 to MOST, that is 999999999999999. */
    private static void numbersUpToMost() {
        TurnedAbout x = with(TAKE, 0);
        long[] good = {0, MOST};
        for (long n : good) {
            Due.is("number " + n + " turned", x.turned(n), n);
            Due.is("number " + n + " next", x.next(0, n), 0);
            Due.is("number " + n + " waits", x.waits(n), 0);
            Due.is("number " + n + " written", x.write(n), n == 0 ? 1 : 2);
        }
        long[] no = {-1, MOST + 1};
        for (long n : no) {
            Due.is("number " + n + " turned", x.turned(n), -6);
            Due.is("number " + n + " next", x.next(0, n), -6);
            Due.is("number " + n + " waits", x.waits(n), -6);
            Due.is("number " + n + " written", x.write(n), -6);
        }
    }

    /** their FIGURES are those in BASE, without noughts ahead (0 has one). */
    private static void noNoughtsAhead() {
        for (int base = 2; base <= 10; base++) {
            TurnedAbout x = inBase(base, LAW, 0);
            Due.is("0 has one figure in " + base, x.numberOf(0, 0), 1);
            Due.is("the greatest of one in " + base, x.numberOf(base - 1, 0), 1);
            Due.is("the least of two in " + base, x.numberOf(base, 0), 2);
            Due.is("the greatest of two in " + base, x.numberOf(base * base - 1, 0), 2);
            Due.is("the least of three in " + base, x.numberOf(base * base, 0), 3);
            Due.is("MOST in " + base, x.numberOf(MOST, 0), Long.toString(MOST, base).length());
        }
    }

    /** TURNED: its FIGURES the other way about (noughts that come ahead then are dropped). */
    private static void noughtsDropped() {
        TurnedAbout x = new TurnedAbout();
        Due.is("10 turned", x.turned(10), 1);
        Due.is("1230 turned", x.turned(1230), 321);
        Due.is("a nought inside stays", x.turned(1020), 201);
        Due.is("10 power 14 turned", x.turned(100000000000000L), 1);
        x.base(2);
        Due.is("1000 in 2 turned", x.turned(8), 1);
        Due.is("110 in 2 turned", x.turned(6), 3);
    }

    /** ALIKE: TURNED is the number. */
    private static void alike() {
        TurnedAbout x = new TurnedAbout();
        long[] yes = {0, 1, 9, 11, 99, 101, 1221, 12321, MOST};
        long[] no = {10, 12, 100, 110, 1231, 12331, MOST - 1};
        for (long n : yes) {
            Due.is(n + " is alike", x.numberOf(n, 2), 1);
        }
        for (long n : no) {
            Due.is(n + " is not", x.numberOf(n, 2), 0);
        }
        x.base(2);
        Due.is("9 in 2", x.numberOf(9, 2), 1);
        Due.is("11 in 2", x.numberOf(11, 2), 0);
    }

    private static void laws() {
        sixLaws();
        aFrom0To9();
        kindsUnderKinds();
        valuesOfToldLaws();
    }

    /** LAWS have places, from 0 on, 6 at most. */
    private static void sixLaws() {
        TurnedAbout x = new TurnedAbout();
        for (int place = 0; place < 6; place++) {
            Due.is("laws ahead of place " + place, x.status(0), place);
            Due.is("no law yet", x.next(place, 1), -1);
            Due.is("place", x.law(TAKE, 0), place);
            Due.is("a law now", x.next(place, 1), 0);
        }
        Due.is("a seventh", x.law(TAKE, 0), -7);
        Due.is("six still", x.status(0), 6);
        Due.is("no law 6", x.next(6, 1), -1);
        Due.is("no law -1", x.next(-1, 1), -1);
    }

    /** a (0 to 9). */
    private static void aFrom0To9() {
        TurnedAbout x = new TurnedAbout();
        Due.is("a 0", x.law(LAW, 0), 0);
        Due.is("a 9", x.law(LAW, 9), 1);
        Due.is("a -1", x.law(LAW, -1), -6);
        Due.is("a 10", x.law(LAW, 10), -6);
        Due.is("1 and 1 and 0", x.next(0, 1), 2);
        Due.is("1 and 1 and 9", x.next(1, 1), 11);
    }

    /** 0 LAW; 1 TAKE, 2 SQUARE, 4 TIMES, each under LAW; 3 ORDER, under TAKE; 5 TOLD, 6 CUBE, each under SQUARE. */
    private static void kindsUnderKinds() {
        String[] under = {"0", "01", "02", "013", "04", "025", "026"};
        for (int kind = 0; kind <= 6; kind++) {
            TurnedAbout x = with(kind, 0);
            Due.is("kind " + kind + " is shown", x.show(0, 0), 1);
            Due.is("kind " + kind, x.lawOf(0, 0), kind);
            for (int asked = 0; asked <= 6; asked++) {
                boolean isOne = under[kind].indexOf((char) ('0' + asked)) >= 0;
                Due.holds(kind + " taken for " + asked, isOne == (x.says(0, asked) != -2));
            }
        }
        TurnedAbout x = new TurnedAbout();
        Due.is("no kind 7", x.law(7, 0), -1);
        Due.is("no kind -1", x.law(-1, 0), -1);
    }

    /** of a TOLD one a VALUE for each FIGURE 0 to 9 (0 to 999; 0 at first). */
    private static void valuesOfToldLaws() {
        TurnedAbout x = with(TOLD, 0);
        for (int figure = 0; figure <= 9; figure++) {
            Due.is("VALUE at first", x.lawOf(0, 10 + figure), 0);
        }
        for (int figure = 0; figure <= 9; figure++) {
            Due.is("VALUE of " + figure, x.value(0, figure, 999 - figure), 0);
            Due.is("NEXT of " + figure, x.next(0, figure), 999 - figure);
        }
        Due.is("VALUE 0", x.value(0, 9, 0), 990);
        Due.is("VALUE -1", x.value(0, 9, -1), -6);
        Due.is("VALUE 1000", x.value(0, 9, 1000), -6);
        Due.is("FIGURE -1", x.value(0, -1, 5), -6);
        Due.is("FIGURE 10", x.value(0, 10, 5), -6);
        Due.is("the latest stays", x.lawOf(0, 19), 0);
        Due.is("the first stays", x.lawOf(0, 10), 999);
        x.law(TOLD, 0);
        Due.is("another law has its own", x.next(1, 123), 0);
    }

    private static void nexts() {
        nextOfLaw();
        nextOfTake();
        nextOfOrder();
        nextOfFigures();
        nextOfTimes();
        noNextAboveMost();
    }

    /** LAW: x and TURNED and a. */
    private static void nextOfLaw() {
        Due.is("0 and 0 and 7", with(LAW, 7).next(0, 0), 7);
        Due.is("100 and 1 and 7", with(LAW, 7).next(0, 100), 108);
        Due.is("in 2, 100 and 001 and 9", inBase(2, LAW, 9).next(0, 4), 14);
    }

    /** TAKE: the greater of x and TURNED less the lesser. */
    private static void nextOfTake() {
        TurnedAbout x = with(TAKE, 9);
        Due.is("x is greater", x.next(0, 21), 9);
        Due.is("TURNED is greater", x.next(0, 12), 9);
        Due.is("neither is", x.next(0, 22), 0);
        Due.is("0", x.next(0, 0), 0);
        Due.is("no a", x.next(0, 100), 99);
    }

    /** ORDER: its FIGURES from the greatest to the least, as a number, less from the least to the greatest. */
    private static void nextOfOrder() {
        TurnedAbout x = with(ORDER, 9);
        Due.is("5432 less 2345", x.next(0, 3254), 3087);
        Due.is("noughts: 2100 less 12", x.next(0, 1020), 2088);
        Due.is("all the same", x.next(0, 7777), 0);
        Due.is("0", x.next(0, 0), 0);
        Due.is("fifteen: one 1", x.next(0, 100000000000000L), 99999999999999L);
        Due.is("fifteen nines", x.next(0, MOST), 0);
        Due.is("in 2, 49 ones", inBase(2, ORDER, 0).next(0, (1L << 49) - 1), 0);
        Due.is("in 2, 50 figures, 1 and 49 noughts", inBase(2, ORDER, 0).next(0, 1L << 49), (1L << 49) - 1);
    }

    /** SQUARE: its FIGURES squared, together. CUBE: to the third power, together. TOLD: VALUES together. */
    private static void nextOfFigures() {
        Due.is("SQUARE of 0", with(SQUARE, 9).next(0, 0), 0);
        Due.is("SQUARE of 205", with(SQUARE, 9).next(0, 205), 29);
        Due.is("SQUARE of MOST", with(SQUARE, 9).next(0, MOST), 15 * 81);
        Due.is("CUBE of 0", with(CUBE, 9).next(0, 0), 0);
        Due.is("CUBE of 205", with(CUBE, 9).next(0, 205), 133);
        Due.is("CUBE of MOST", with(CUBE, 9).next(0, MOST), 15 * 729);
        TurnedAbout x = with(TOLD, 9);
        x.value(0, 0, 5);
        x.value(0, 1, 100);
        Due.is("TOLD of 0: one figure", x.next(0, 0), 5);
        Due.is("TOLD of 100", x.next(0, 100), 110);
        x.base(2);
        Due.is("TOLD of 100 in 2", x.next(0, 4), 110);
    }

    /** TIMES: its FIGURES multiplied, and a. */
    private static void nextOfTimes() {
        TurnedAbout x = with(TIMES, 3);
        Due.is("0 has the one figure 0", x.next(0, 0), 3);
        Due.is("a nought", x.next(0, 205), 3);
        Due.is("one figure", x.next(0, 9), 12);
        Due.is("fifteen nines", x.next(0, MOST), 205891132094649L + 3);
    }

    /** (NEXT above MOST: there is none.) */
    private static void noNextAboveMost() {
        TurnedAbout x = with(LAW, 0);
        Due.is("a nine and fourteen eights are still one", x.next(0, 499999949999994L), 999999899999988L);
        Due.is("10 power 15 and more", x.next(0, 500000000000005L), -7);
        Due.is("MOST twice", x.next(0, MOST), -7);
        Due.is("by TAKE there is one", with(TAKE, 0).next(0, MOST), 0);
        // in 9 TURNED has 16 figures, too, and is above MOST
        Due.is("by TAKE in 9", inBase(9, TAKE, 0).next(0, 205891132094657L), -7);
        Due.is("by ORDER in 9", inBase(9, ORDER, 0).next(0, 205891132094657L), -7);
    }

    private static void slates() {
        TurnedAbout x = new TurnedAbout();
        // THE SLATE: numbers one below the other, 20 at most (none at first).
        Due.is("none at first", x.status(1), 0);
        Due.is("no number 0", x.slate(0), -5);
        for (int i = 0; i < 20; i++) {
            Due.is("written below", x.write(100 + i), i + 1);
            Due.is("it stands there", x.slate(i), 100 + i);
        }
        Due.is("a 21st", x.write(1), -7);
        Due.is("twenty still", x.status(1), 20);
    }

    // ==== 2. RUNS

    private static void runs() {
        runEnds();
        goesFrom0();
        comesToIt();
        roundsOfRuns();
        meets();
    }

    /** RUN: x, NEXT of it, and so on (it ends, if there is no NEXT). */
    private static void runEnds() {
        TurnedAbout x = with(LAW, 0);
        long first = 400000000000003L;
        long second = 700000000000007L;
        Due.is("behind no go", x.after(0, first, 0), first);
        Due.is("the last", x.after(0, first, 1), second);
        Due.is("behind the end", x.after(0, first, 2), -7);
        Due.is("far behind the end", x.after(0, first, 1000), -7);
        Due.is("no ROUND in it", x.round(0, first, 0), -5);
        Due.is("they meet at its last", x.meet(0, first, second), second);
        Due.is("GOES: it is alike", x.goes(0, first), 1);
        Due.is("the one behind two goes is the last", x.after(0, 208000000000902L, 3), -7);
        Due.is("GOES: none is alike up to the end", x.goes(0, 208000000000902L), NONE);
    }

    /** GOES: the least number of goes (0 to 200) behind which it is ALIKE. */
    private static void goesFrom0() {
        TurnedAbout x = with(LAW, 0);
        Due.is("none needed", x.goes(0, 11), 0);
        Due.is("one", x.goes(0, 12), 1);
        Due.is("the least: 11 and 22 are alike, too", x.goes(0, 10), 1);
        Due.is("24", x.goes(0, 89), 24);
        Due.is("never: the RUN ends", x.goes(0, 196), NONE);
        Due.is("never: it comes round", with(ORDER, 0).goes(0, 495), NONE);
        Due.is("never in 200 goes", inBase(2, LAW, 1).goes(0, 652), NONE);
    }

    /** COMES: that number. */
    private static void comesToIt() {
        TurnedAbout x = with(LAW, 0);
        Due.is("itself", x.comes(0, 11), 11);
        Due.is("of one go", x.comes(0, 12), 33);
        Due.is("of 24", x.comes(0, 89), 8813200023188L);
        Due.is("none", x.comes(0, 196), -5);
    }

    /** ROUND: the first place of the RUN whose number comes again later; how long round; the least number of it. */
    private static void roundsOfRuns() {
        TurnedAbout x = with(SQUARE, 0);
        long[] inIt = {4, 16, 37, 58, 89, 145, 42, 20};
        for (long n : inIt) {
            Due.is(n + " is in its ROUND", x.round(0, n, 0), 0);
            Due.is("it is eight long", x.round(0, n, 1), 8);
            Due.is("the least of it", x.round(0, n, 2), 4);
        }
        Due.is("2, then 4", x.round(0, 2, 0), 1);
        Due.is("3, 9, 81, 65, 61, then 37", x.round(0, 3, 0), 5);
        Due.is("1 goes to 1", x.round(0, 1, 1), 1);
        Due.is("10, then 1", x.round(0, 10, 0), 1);
        Due.is("the least of 1", x.round(0, 10, 2), 1);
        Due.is("0", x.round(0, 0, 2), 0);
    }

    /** MEET: the first number of the RUN of x (places 0 to 200) that is in that of y (0 to 200), too. */
    private static void meets() {
        TurnedAbout x = with(LAW, 0);
        Due.is("place 0 of both", x.meet(0, 5, 5), 5);
        Due.is("place 0 of x alone", x.meet(0, 22, 10), 22);
        Due.is("place 0 of y alone", x.meet(0, 10, 22), 22);
        TurnedAbout round = with(SQUARE, 0);
        Due.is("the first of x's RUN: 16, not 4", round.meet(0, 16, 4), 16);
        Due.is("the first of x's RUN: 4, not 16", round.meet(0, 4, 16), 4);
        TurnedAbout far = inBase(2, LAW, 1);
        long at200 = far.after(0, 652, 200);
        long at201 = far.after(0, 652, 201);
        Due.is("place 200 of x", far.meet(0, 652, at200), at200);
        Due.is("place 201 of x", far.meet(0, 652, at201), -5);
        Due.is("place 200 of y", far.meet(0, at200, 652), at200);
        Due.is("place 201 of y", far.meet(0, at201, 652), -5);
    }

    // ==== 3. WHAT COMES OF IT

    private static void whatComes() {
        nothingIsChanged();
        sourcesUpTo9999();
        barrenUpTo9999();
        longestOfSeveral();
        takeSoMany();
        roundsBelow();
        waitsForNext();
        fitsByBits();
        beganInJustSoMany();
    }

    /** (nothing is changed) */
    private static void nothingIsChanged() {
        TurnedAbout x = with(LAW, 0);
        x.write(12);
        x.act(0, 1, 5);
        x.source(0, 22, NONE);
        x.barren(0, 0, 99);
        x.longest(0, 100);
        x.many(0, 0, 99, 1);
        x.rounds(0, 100);
        x.waits(10);
        x.fit(12, 33);
        x.began(0, 44, 2, NONE);
        x.slip(12, 34);
        x.missed(121);
        Due.is("one law", x.status(0), 1);
        Due.is("one number", x.status(1), 1);
        Due.is("it", x.slate(0), 12);
        Due.is("BASE", x.status(2), 10);
        Due.is("SEED", x.status(3), 1);
        Due.is("bodies", x.status(4), 2);
        Due.refusals("nothing refused", x);
    }

    /** SOURCES of y: all x from 0 to 9999 of which NEXT is y. */
    private static void sourcesUpTo9999() {
        TurnedAbout x = with(LAW, 0);
        Due.is("0 is one", x.source(0, 0, NONE), 1);
        Due.is("the 0th of 0", x.source(0, 0, 0), 0);
        Due.is("9999 is one", x.source(0, 19998, NONE), 1);
        Due.is("the 0th of 19998", x.source(0, 19998, 0), 9999);
        Due.is("10000 is none", x.source(0, 10001, NONE), 0);
        Due.is("of 33: 12, 21, 30", x.source(0, 33, NONE), 3);
        Due.is("from the least on", x.source(0, 33, 0), 12);
        Due.is("then", x.source(0, 33, 1), 21);
        Due.is("the last", x.source(0, 33, 2), 30);
        Due.is("no more", x.source(0, 33, 3), -5);
        Due.is("of MOST", x.source(0, MOST, NONE), 0);
    }

    /** BARREN from f to t (t 9999 at most): how many y there are without any. Detail: f above t is -6. */
    private static void barrenUpTo9999() {
        TurnedAbout x = with(SQUARE, 0);
        Due.is("one y that has some", x.barren(0, 324, 324), 0);
        Due.is("one y that has none", x.barren(0, 325, 325), 1);
        Due.is("both ends count", x.barren(0, 324, 326), 2);
        Due.is("t 9999", x.barren(0, 9999, 9999), 1);
        x.law(LAW, 0);
        x.law(TAKE, 0);
        Due.is("9999 by LAW has some", x.barren(1, 9999, 9999), 0);
        Due.is("9999 by TAKE has 10000 alone, that counts no more", x.barren(2, 9999, 9999), 1);
        Due.is("of that LAW alone, whatever was asked ahead", x.barren(0, 9999, 9999), 1);
        Due.is("t 10000", x.barren(0, 9999, 10000), -6);
        Due.is("f 0", x.barren(0, 0, 0), 0);
        Due.is("f -1", x.barren(0, -1, 0), -6);
        Due.is("f above t", x.barren(0, 8, 7), -6);
    }

    /** LONGEST below n: of several the first; those that don't come to it count for nothing. Detail: 0 goes count. */
    private static void longestOfSeveral() {
        TurnedAbout x = with(LAW, 0);
        Due.is("n less 1 is one of them", x.longest(0, 90), 89);
        Due.is("n is not", x.longest(0, 89), 79);
        Due.is("0 goes count: of 0 to 9 the first", x.longest(0, 10), 0);
        Due.is("of 10 to 18 the first", x.longest(0, 19), 10);
        Due.is("98 has as many, but comes behind", x.longest(0, 100), 89);
        Due.is("196 doesn't come to it", x.longest(0, 197), 89);
        Due.is("below 1", x.longest(0, 1), 0);
        Due.is("below 2000", x.longest(0, 2000), 89);
    }

    /** TAKE g: how many numbers from f to t (2000 of them at most) have just g GOES; g NONE: none at all. */
    private static void takeSoMany() {
        TurnedAbout x = with(LAW, 0);
        Due.is("both ends: 9 to 11 by 0 goes", x.many(0, 9, 11, 0), 2);
        Due.is("both ends: 89 to 98 by 24", x.many(0, 89, 98, 24), 2);
        Due.is("just so many: 10 to 12 by 1", x.many(0, 10, 12, 1), 2);
        Due.is("none at all: 195 to 197", x.many(0, 195, 197, NONE), 1);
        Due.is("one number", x.many(0, 7, 7, 0), 1);
        Due.is("2000 of them", x.many(0, 1, 2000, 0), 9 + 9 + 90 + 10);
        Due.is("2001 of them", x.many(0, 0, 2000, 0), -6);
        Due.is("200 goes", x.many(0, 0, 9, 200), 0);
        Due.is("201 goes", x.many(0, 0, 9, 201), -6);
    }

    /** ROUNDS below n (1 to 500): how many unlike ROUNDS (by their least numbers) numbers 0 to n less 1 come to. */
    private static void roundsBelow() {
        TurnedAbout x = with(SQUARE, 0);
        Due.is("that of 0", x.rounds(0, 1), 1);
        Due.is("that of 1", x.rounds(0, 2), 2);
        Due.is("that of 4", x.rounds(0, 3), 3);
        Due.is("no other", x.rounds(0, 500), 3);
        TurnedAbout told = with(TOLD, 0);
        for (int figure = 0; figure < 10; figure++) {
            told.value(0, figure, 400 + figure);
        }
        Due.is("as many as there are, by many numbers", told.rounds(0, 500), roundsOfTold());
        Due.is("LAW: 0 alone", with(LAW, 0).rounds(0, 500), 1);
        Due.is("LAW with a: none", with(LAW, 1).rounds(0, 500), 0);
    }

    private static int roundsOfTold() {
        int[] values = {400, 401, 402, 403, 404, 405, 406, 407, 408, 409};
        Plain law = new Plain(10, TOLD, 0, values);
        Set<Long> leasts = new HashSet<>();
        for (int x = 0; x < 500; x++) {
            leasts.add(law.round(x)[2]);
        }
        return leasts.size();
    }

    /** WAITS: how far it is from x to the next number that is ALIKE (0: x is). */
    private static void waitsForNext() {
        TurnedAbout x = new TurnedAbout();
        Due.is("x is", x.waits(121), 0);
        Due.is("the one behind x", x.waits(122), 9);
        Due.is("the one ahead of it", x.waits(130), 1);
        Due.is("a figure more: 999 and 1001", x.waits(1000), 1);
        Due.is("over the middle: 1991 and 2002", x.waits(1992), 10);
        Due.is("MOST", x.waits(MOST), 0);
        x.base(9);
        Due.is("none is left up to MOST", x.waits(MOST), -6);
    }

    /** FIT: LAWS (bits) by which NEXT of x is y. */
    private static void fitsByBits() {
        TurnedAbout x = new TurnedAbout();
        Due.is("no laws", x.fit(12, 33), 0);
        for (int place = 0; place < 6; place++) {
            x.law(place % 2 == 0 ? LAW : TAKE, 0);
        }
        Due.is("places 0, 2, 4", x.fit(12, 33), 1 + 4 + 16);
        Due.is("places 1, 3, 5", x.fit(12, 9), 2 + 8 + 32);
        Due.is("none", x.fit(12, 10), 0);
        Due.is("all", x.fit(0, 0), 63);
        Due.is("no NEXT fits nothing", x.fit(MOST, MOST), 0);
    }

    /** BEGAN: all x from 0 to 9999 that come to y in just g goes (1 to 20). Detail: by the number behind g goes. */
    private static void beganInJustSoMany() {
        TurnedAbout x = with(LAW, 0);
        Due.is("0 is one", x.began(0, 0, 20, 0), 0);
        Due.is("9999 is one", x.began(0, 19998, 1, 0), 9999);
        Due.is("10000 is none", x.began(0, 10001, 1, NONE), 0);
        Due.is("33 of 12, 21, 30 in one", x.began(0, 33, 1, NONE), 3);
        Due.is("66 of those in two", x.began(0, 66, 2, NONE), 3);
        Due.is("33 itself is not one of two", x.began(0, 66, 2, 2), 30);
        Due.is("no more", x.began(0, 66, 2, 3), -5);
        Due.is("89 in 20", x.began(0, x.after(0, 89, 20), 20, 0), 89);
        TurnedAbout square = with(SQUARE, 0);
        Due.is("1 is 1 behind each number of goes, 10 too", square.began(0, 1, 2, 0), 1);
        Due.is("and 10", square.began(0, 1, 2, 1), 10);
        Due.is("13, that is 10 and then 1", square.began(0, 1, 2, 2), 13);
    }

    private static void slipsAndChecks() {
        slips();
        checks();
        missedSlips();
    }

    /** SLIP: the first FIGURE from the end on (0) that is wrong (one that isn't there is 0, in both); NONE. */
    private static void slips() {
        TurnedAbout x = new TurnedAbout();
        Due.is("right", x.slip(12, 33), NONE);
        Due.is("the last figure is 0", x.slip(12, 34), 0);
        Due.is("the one ahead of it", x.slip(12, 43), 1);
        Due.is("both: the first from the end on", x.slip(12, 44), 0);
        Due.is("one too many", x.slip(12, 133), 2);
        Due.is("one too few: 303 told as 3", x.slip(102, 3), 2);
        Due.is("110 told as 10", x.slip(55, 10), 2);
        Due.is("0 is 0", x.slip(0, 0), NONE);
        Due.is("above MOST: 1999999999999998 told by its last 15", x.slip(MOST, 999999999999998L), 15);
        Due.is("above MOST, last figure", x.slip(MOST, 999999999999999L), 0);
        x.base(2);
        Due.is("in 2, 110 and 011 are 1001", x.slip(6, 9), NONE);
        Due.is("in 2, told 1", x.slip(6, 1), 3);
    }

    /** CHECK of x: FIGURES, from the last on times 1, 2, 3, .. together, modulo BASE. */
    private static void checks() {
        TurnedAbout x = new TurnedAbout();
        Due.is("0", x.numberOf(0, 3), 0);
        Due.is("9", x.numberOf(9, 3), 9);
        Due.is("18: 8 and 2", x.numberOf(18, 3), 0);
        Due.is("321: 1 and 4 and 9", x.numberOf(321, 3), 4);
        Due.is("MOST: 9 times 120", x.numberOf(MOST, 3), 0);
        x.base(3);
        Due.is("in 3, 212: 2 and 2 and 6", x.numberOf(23, 3), 1);
    }

    /** MISSED: as many FIGURES, all the same but one, the same CHECK. Detail: the first may be 0 only if it is one. */
    private static void missedSlips() {
        TurnedAbout x = new TurnedAbout();
        Due.is("one figure changes the CHECK", x.missed(5), 0);
        Due.is("0, too", x.missed(0), 0);
        // the tens count by 2: 5 more or less is the same; 50 would be 00
        Due.is("60 and 10", x.missed(60), 1);
        Due.is("50 and 00, that has one figure", x.missed(50), 0);
        Due.is("555: 505", x.missed(555), 1);
        Due.is("5050, but not 0000, that has one figure", x.missed(5000), 1);
        Due.is("12345 by 10 power 4 is times 5", x.missed(12345), 1 + 1 + 4);
        x.base(2);
        // in 2 the second, fourth .. count nothing
        Due.is("in 2, 10 and 00, that has one figure", x.missed(2), 0);
        Due.is("in 2, 100 and 110", x.missed(4), 1);
    }

    private static void toldSlates() {
        TurnedAbout x = with(LAW, 0);
        // WRONG: the first place (from 1 on) whose number isn't NEXT of the one ahead by a LAW; NONE.
        Due.numbers(x, 0, 3, 12, 33, 66, 132);
        Due.is("right", x.judge(0, 0, 4), NONE);
        x.set(0, 1, 34);
        Due.is("place 1 is the first", x.judge(0, 0, 4), 1);
        x.set(0, 1, 33);
        x.set(0, 3, 133);
        Due.is("place 3", x.judge(0, 0, 4), 3);
        Due.is("ahead of it", x.judge(0, 0, 3), NONE);
        Due.is("one alone isn't wrong", x.judge(0, 0, 1), NONE);
        // a number below 0 or above MOST is wrong where it stands (from 0 on)
        Due.numbers(x, 1, 3, -1, -1);
        Due.is("below 0 at 0", x.judge(0, 1, 2), 0);
        Due.numbers(x, 1, 3, MOST + 1, 5);
        Due.is("above MOST at 0", x.judge(0, 1, 2), 0);
        Due.numbers(x, 1, 3, 0, 0, -1);
        Due.is("below 0 at 2", x.judge(0, 1, 3), 2);
        Due.numbers(x, 1, 3, MOST, MOST + MOST);
        Due.is("above MOST at 1", x.judge(0, 1, 2), 1);
        Due.numbers(x, 1, 3, MOST);
        Due.is("MOST isn't wrong", x.judge(0, 1, 1), NONE);
        // told SLATES are read as they are
        Due.numbers(x, 1, 3, (1L << 32) + 12, 33);
        Due.is("not by the lowest 32 bits", x.judge(0, 1, 2), 1);
        Due.numbers(x, 1, 3, (1L << 32) + 12, x.next(0, (1L << 32) + 12));
        Due.is("by whole longs", x.judge(0, 1, 2), NONE);
        Due.numbers(x, 1, 0, 99, 198);
        Due.is("bytes have a sign", x.judge(0, 1, 2), 1);
        // LAWS (bits) by which a told SLATE isn't WRONG anywhere.
        x.law(TAKE, 0);
        x.law(LAW, 0);
        Due.numbers(x, 2, 0, 12, 33);
        Due.is("places 0 and 2", x.laws(2, 2), 5);
        Due.numbers(x, 2, 0, 12, 9);
        Due.is("place 1", x.laws(2, 2), 2);
        Due.is("all by one number", x.laws(2, 1), 7);
        Due.numbers(x, 2, 0, -12);
        Due.is("none by a wrong one", x.laws(2, 1), 0);
    }

    private static void drawsAndLessons() {
        draws();
        lessonIsAlikeAtOnce();
        lessonsFillTheSlate();
    }

    /** A DRAW below n: SEED times 1103515245, and 12345 (an int, wrapping); upper 16 bits, no sign, modulo n. */
    private static void draws() {
        TurnedAbout x = with(ORDER, 0);
        x.lessons(1);
        Due.is("SEED 1: 1103527590, 16838, modulo 1000", x.slate(0), 838);
        int second = 1103527590 * 1103515245 + 12345;
        Due.is("a draw of the law, too", x.status(3), second);
        TurnedAbout y = with(ORDER, 0);
        int seed = 2;
        while (seed * 1103515245 + 12345 >= 0) {
            seed++;
        }
        y.seed(seed);
        y.lessons(1);
        int drawn = seed * 1103515245 + 12345;
        Due.is("no sign", y.slate(0), ((long) drawn + (1L << 32)) / 65536 % 1000);
    }

    private static int seedThatDraws(int number) {
        int seed = 0;
        while (((seed * 1103515245 + 12345) >>> 16) % 1000 != number) {
            seed++;
        }
        return seed;
    }

    /** THE SLATE is empty; a number is written; GOES till it is ALIKE (0 of them, if it is). */
    private static void lessonIsAlikeAtOnce() {
        TurnedAbout x = with(LAW, 0);
        x.write(5);
        x.write(6);
        x.seed(seedThatDraws(7));
        Due.is("7 is alike", x.lessons(1), 1);
        Due.is("alone on THE SLATE", x.status(1), 1);
        Due.is("it", x.slate(0), 7);
        x.seed(seedThatDraws(12));
        Due.is("12 comes to it", x.lessons(1), 1);
        Due.is("in one go", x.status(1), 2);
        Due.is("33", x.slate(1), 33);
        x.seed(seedThatDraws(0));
        Due.is("0 is alike", x.lessons(1), 1);
        Due.is("the least draw", x.slate(0), 0);
        x.seed(seedThatDraws(999));
        Due.is("999 is alike", x.lessons(1), 1);
        Due.is("the greatest draw", x.slate(0), 999);
    }

    /** .. THE SLATE is full .. */
    private static void lessonsFillTheSlate() {
        TurnedAbout x = inBase(3, LAW, 4);
        x.seed(seedThatDraws(746));
        Due.is("746 comes to it in 19 goes", x.lessons(1), 1);
        Due.is("full", x.status(1), 20);
        Due.is("the last is alike", x.numberOf(x.slate(19), 2), 1);
        x.seed(seedThatDraws(735));
        Due.is("735 would in 20", x.lessons(1), 0);
        Due.is("full, too", x.status(1), 20);
        Due.is("the last is not alike", x.numberOf(x.slate(19), 2), 0);
        Due.is("it would", x.goes(0, 735), 20);
    }

    private static void shelves() {
        eightShelves();
        rowsOf160();
        lowestBits();
    }

    /** SHELVES 0 to 7 hold NOTHING (at first), a ROW, or a LAW. */
    private static void eightShelves() {
        TurnedAbout x = with(LAW, 3);
        for (int s = 0; s < 8; s++) {
            Due.is("NOTHING at first", x.holds(s), NONE);
            Due.is("a row", x.row(s, s % 4, s), 1);
        }
        for (int s = 0; s < 8; s++) {
            Due.is("its own row", x.holds(s), 100 + s % 4);
            Due.is("a law then", x.show(s, 0), 1);
            Due.is("it holds it", x.holds(s), 0);
            Due.is("a row again", x.row(s, 0, 1), 1);
        }
        int[] no = {-1, 8, Integer.MIN_VALUE, Integer.MAX_VALUE};
        for (int s : no) {
            Due.is("no shelf " + s, x.row(s, 0, 1), -1);
            Due.is("no law there", x.show(s, 0), -1);
            Due.is("nothing there", x.holds(s), NONE);
        }
    }

    /** A ROW has a SORT and 0 to 160 elements, 0 at first. */
    private static void rowsOf160() {
        TurnedAbout x = new TurnedAbout();
        Due.is("0 elements", x.row(0, 0, 0), 1);
        Due.is("no first one", x.set(0, 0, 1), -5);
        Due.is("160 elements", x.row(1, 3, 160), 1);
        for (int i = 0; i < 160; i++) {
            Due.is("0 at first", x.element(1, i), 0);
        }
        Due.is("the last", x.set(1, 159, 7), 1);
        Due.is("no more", x.set(1, 160, 7), -5);
        Due.is("161 elements", x.row(1, 3, 161), -7);
        Due.is("the row stays", x.element(1, 159), 7);
        x.row(1, 3, 160);
        Due.is("a new row is 0 again", x.element(1, 159), 0);
        Due.is("sort 4", x.row(2, 4, 1), -6);
        Due.is("sort -1", x.row(2, -1, 1), -6);
    }

    /** (0 bytes, 1 shorts, 2 ints, 3 longs); what is put in keeps its lowest bits. */
    private static void lowestBits() {
        int[] bits = {8, 16, 32};
        for (int sort = 0; sort < 3; sort++) {
            TurnedAbout x = new TurnedAbout();
            x.row(0, sort, 4);
            long half = 1L << bits[sort] - 1;
            x.set(0, 0, half - 1);
            x.set(0, 1, half);
            x.set(0, 2, -half);
            x.set(0, 3, -half - 1);
            Due.is("the greatest of sort " + sort, x.element(0, 0), half - 1);
            Due.is("one more is the least", x.element(0, 1), -half);
            Due.is("the least", x.element(0, 2), -half);
            Due.is("one less is the greatest", x.element(0, 3), half - 1);
            x.set(0, 0, Long.MIN_VALUE);
            Due.is("bits above are dropped", x.element(0, 0), 0);
        }
        TurnedAbout x = new TurnedAbout();
        x.row(0, 3, 2);
        x.set(0, 0, Long.MIN_VALUE);
        x.set(0, 1, Long.MAX_VALUE);
        Due.is("the least long", x.element(0, 0), Long.MIN_VALUE);
        Due.is("the greatest long", x.element(0, 1), Long.MAX_VALUE);
    }

    /** ACTS of LAWS, with x (wrapping); m the place, k its a. */
    private static void bodies() {
        int most = Integer.MAX_VALUE;
        int least = Integer.MIN_VALUE;
        TurnedAbout x = new TurnedAbout();
        x.law(ORDER, 9);
        x.law(ORDER, 9);
        // 20 turns: (x + m) + k
        Due.is("m 0, k 9", x.act(0, 0, 0), 9);
        Due.is("m 1, k 9", x.act(1, 0, 0), 10);
        Due.is("turns wraps", x.act(1, 0, most), least + 9);
        // 40 adds: turns(x + 1) * 2
        Due.is("adds wraps, m 0", x.act(0, 1, most), (least + 9) * 2);
        Due.is("adds wraps, m 1", x.act(1, 1, most), (least + 10) * 2);
        TurnedAbout y = with(TIMES, 9);
        // 50 reads: -(adds(x) ^ turns(x - k)), where adds is turns(x) * 2 and turns x + m - m
        Due.is("reads wraps", y.act(0, 2, least), -(least * 2 ^ least - 9));
        TurnedAbout z = with(CUBE, 9);
        // 71 adds: 30 adds: turns(x - k) * 2 * 3, where turns is (x + m) * 2
        Due.is("x less k wraps", z.act(0, 1, least), (least - 9) * 2 * 2 * 3);
        TurnedAbout told = with(TOLD, 0);
        // 60 reads: (turns(x) * 2 * 3 ^ turns(x)) ^ 5
        Due.is("^ 5", told.act(0, 2, 0), 5);
        Due.is("^ 5 of 1", told.act(0, 2, 1), 6 ^ 1 ^ 5);
    }
}
