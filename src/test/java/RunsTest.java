import java.util.HashSet;
import java.util.List;
import java.util.Random;
import java.util.Set;

/** Promises 15 to 32 by many numbers, bases and laws, held against the plainest reckoning. */
public final class RunsTest {
    private static final long MOST = Plain.MOST;
    private static final Random DRAW = new Random(20);

    public static void main(String[] args) {
        for (int base = 2; base <= 10; base++) {
            numbersIn(base);
            for (int kind = 0; kind < 7; kind++) {
                runsOf(law(base, kind));
                runsOf(law(base, kind));
                dearOf(law(base, kind));
            }
            fitsIn(base);
        }
        longRounds();
        Due.end();
    }

    private static Plain law(int base, int kind) {
        int[] values = new int[10];
        int most = 1 + DRAW.nextInt(999);
        for (int i = 0; i < 10; i++) {
            values[i] = DRAW.nextInt(most + 1);
        }
        return new Plain(base, kind, DRAW.nextInt(10), values);
    }

    private static TurnedAbout made(Plain law) {
        TurnedAbout x = new TurnedAbout();
        x.base(law.base);
        x.law(law.kind, law.a);
        for (int i = 0; i < 10 && law.kind == 5; i++) {
            x.value(0, i, law.values[i]);
        }
        return x;
    }

    private static long number() {
        switch (DRAW.nextInt(5)) {
            case 0:
                return DRAW.nextInt(30);
            case 1:
                return DRAW.nextInt(2000);
            case 2:
                return MOST - DRAW.nextInt(2000);
            default:
                return (DRAW.nextLong() >>> 1) % (MOST + 1) >> DRAW.nextInt(50);
        }
    }

    private static void numbersIn(int base) {
        for (int i = 0; i < 300; i++) {
            TurnedAbout t = new TurnedAbout();
            t.base(base);
            long x = number();
            String of = " of " + x + " in " + base;
            String figures = Plain.figures(x, base);
            Due.is("15: turned" + of, t.turned(x), Plain.turned(x, base));
            Due.is("16: figures" + of, t.numberOf(x, 0), figures.length());
            Due.is("16: sum" + of, t.numberOf(x, 1), figures.chars().sum() - 48 * figures.length());
            Due.is("16: alike" + of, t.numberOf(x, 2), Plain.alike(x, base) ? 1 : 0);
            Due.is("16: check" + of, t.numberOf(x, 3), Plain.check(x, base));
            Due.is("32: missed" + of, t.missed(x), Plain.missed(x, base));
            waitsFrom(t, x, base);
            long sum = x + Plain.turned(x, base);
            long unit = 1;
            for (int k = DRAW.nextInt(15); k > 0; k--) {
                unit *= base;
            }
            long[] told = {sum, sum + 1, sum + unit, sum - unit, number()};
            for (long s : told) {
                boolean stands = s >= 0 && s <= MOST;
                Due.is("31: slip" + of + " told " + s, t.slip(x, s), stands ? Plain.slip(x, s, base) : -16);
            }
        }
    }

    /** Between x and the number that the answer tells there is none that reads alike. */
    private static void waitsFrom(TurnedAbout t, long x, int base) {
        long waits = t.waits(x);
        if (waits == -6) {
            Due.holds("28: none is left from " + x + " in " + base, MOST - x < 100000000 && noneAlike(x, MOST + 1, base));
        } else {
            Due.holds("28: waits " + x + " in " + base, waits >= 0 && Plain.alike(x + waits, base) && x + waits <= MOST);
            Due.holds("28: first from " + x + " in " + base, waits > 100000 || noneAlike(x, x + waits, base));
        }
    }

    private static boolean noneAlike(long f, long t, int base) {
        for (long x = f; x < t; x++) {
            if (Plain.alike(x, base)) {
                return false;
            }
        }
        return true;
    }

    private static void runsOf(Plain law) {
        TurnedAbout t = made(law);
        for (int i = 0; i < 30; i++) {
            long x = number();
            long y = i % 3 == 0 ? number() : DRAW.nextInt(300);
            String of = " of " + x + " in " + law.base + " by " + law.kind + " " + law.a;
            Due.is("17: next" + of, t.next(0, x), refused(law.next(x), -7));
            int n = DRAW.nextInt(i % 5 == 0 ? 1001 : 20);
            Due.is("18: after " + n + of, t.after(0, x, n), refused(law.after(x, n), -7));
            int goes = law.goes(x);
            Due.is("19: goes" + of, t.goes(0, x), goes);
            Due.is("20: comes" + of, t.comes(0, x), goes < 0 ? -5 : law.after(x, goes));
            long[] round = law.round(x);
            for (int what = 0; what < 3; what++) {
                Due.is("21: round" + of + " " + what, t.round(0, x, what), round == null ? -5 : round[what]);
            }
            Due.is("22: meet " + y + of, t.meet(0, x, y), refused(law.meet(x, y), -5));
        }
    }

    private static long refused(long answer, int no) {
        return answer < 0 ? no : answer;
    }

    private static void dearOf(Plain law) {
        TurnedAbout t = made(law);
        String by = " in " + law.base + " by " + law.kind + " " + law.a;
        long y = law.next(DRAW.nextInt(10000));
        beginnersOf(t, "23: source " + y + by, law.began(y, 1), y, 0);
        int g = 1 + DRAW.nextInt(20);
        long z = law.after(DRAW.nextInt(10000), g);
        if (z >= 0) {
            beginnersOf(t, "30: began " + z + " " + g + by, law.began(z, g), z, g);
        }
        Set<Long> come = new HashSet<>();
        for (int x = 0; x < 10000; x++) {
            come.add(law.next(x));
        }
        int f = DRAW.nextInt(10000);
        int to = f + DRAW.nextInt(10000 - f);
        barrenIs(t, by, come, f, to);
        barrenIs(t, by, come, 0, 9999);
        countsOf(t, law, by);
    }

    private static void beginnersOf(TurnedAbout t, String call, List<Integer> want, long y, int g) {
        int[] places = {-1, 0, 1, want.size() / 2, want.size() - 1, want.size(), want.size() + 1, -2, 10000};
        for (int i : places) {
            long due = i == -1 ? want.size() : i >= 0 && i < want.size() ? want.get(i) : -5;
            Due.is(call + " " + i, g == 0 ? t.source(0, y, i) : t.began(0, y, g, i), due);
        }
    }

    private static void barrenIs(TurnedAbout t, String by, Set<Long> come, int f, int to) {
        int count = 0;
        for (long y = f; y <= to; y++) {
            count += come.contains(y) ? 0 : 1;
        }
        Due.is("24: barren " + f + " " + to + by, t.barren(0, f, to), count);
    }

    private static void countsOf(TurnedAbout t, Plain law, String by) {
        int n = 1 + DRAW.nextInt(300);
        int longest = -1;
        int most = -1;
        Set<Long> leasts = new HashSet<>();
        for (int x = 0; x < n; x++) {
            int goes = law.goes(x);
            if (goes > most) {
                most = goes;
                longest = x;
            }
            long[] round = law.round(x);
            if (round != null) {
                leasts.add(round[2]);
            }
        }
        Due.is("25: longest " + n + by, t.longest(0, n), longest);
        Due.is("27: rounds " + n + by, t.rounds(0, n), leasts.size());
        int f = DRAW.nextInt(3) == 0 ? DRAW.nextInt(Integer.MAX_VALUE - 200) : DRAW.nextInt(3000);
        int to = f + DRAW.nextInt(200);
        int[] counts = new int[202];
        for (long x = f; x <= to; x++) {
            counts[law.goes(x) + 1]++;
        }
        for (int g = -1; g <= 200; g += g < 12 ? 1 : 47) {
            Due.is("26: many " + f + " " + to + " " + g + by, t.many(0, f, to, g), counts[g + 1]);
        }
    }

    private static void fitsIn(int base) {
        Plain[] laws = new Plain[6];
        TurnedAbout t = new TurnedAbout();
        t.base(base);
        for (int place = 0; place < 6; place++) {
            laws[place] = law(base, DRAW.nextInt(7));
            t.law(laws[place].kind, laws[place].a);
            for (int i = 0; i < 10 && laws[place].kind == 5; i++) {
                t.value(place, i, laws[place].values[i]);
            }
        }
        for (int i = 0; i < 200; i++) {
            long x = i % 2 == 0 ? number() : DRAW.nextInt(40);
            long y = laws[DRAW.nextInt(6)].next(x);
            int bits = 0;
            for (int place = 0; place < 6; place++) {
                bits |= y >= 0 && laws[place].next(x) == y ? 1 << place : 0;
            }
            Due.is("29: fit " + x + " " + y + " in " + base, t.fit(x, y), y < 0 ? -6 : bits);
        }
    }

    /** Laws of told values with long runs, so that rounds close late, or too late. */
    private static void longRounds() {
        for (int i = 0; i < 400; i++) {
            int[] values = new int[10];
            for (int k = 0; k < 10; k++) {
                values[k] = DRAW.nextInt(1000);
            }
            Plain law = new Plain(2 + DRAW.nextInt(9), 5, 0, values);
            TurnedAbout t = made(law);
            long[] round = law.round(i);
            for (int what = 0; what < 3; what++) {
                Due.is("21: long round " + i, t.round(0, i, what), round == null ? -5 : round[what]);
            }
            Due.is("19: goes " + i, t.goes(0, i), law.goes(i));
        }
    }
}
