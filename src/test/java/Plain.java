import java.util.ArrayList;
import java.util.Arrays;
import java.util.List;

/** The terms of the document once more, by texts of figures and in the plainest way: what answers are held against. */
final class Plain {
    static final long MOST = 999999999999999L;

    final int base;
    final int kind;
    final int a;
    final int[] values;

    Plain(int base, int kind, int a, int[] values) {
        this.base = base;
        this.kind = kind;
        this.a = a;
        this.values = values;
    }

    static Plain law(int base, int kind, int a) {
        return new Plain(base, kind, a, new int[10]);
    }

    static String figures(long x, int base) {
        return Long.toString(x, base);
    }

    static long turned(long x, int base) {
        return Long.parseLong(new StringBuilder(figures(x, base)).reverse().toString(), base);
    }

    static boolean alike(long x, int base) {
        return turned(x, base) == x;
    }

    static int check(long x, int base) {
        String turned = new StringBuilder(figures(x, base)).reverse().toString();
        int sum = 0;
        for (int i = 0; i < turned.length(); i++) {
            sum += (i + 1) * (turned.charAt(i) - '0');
        }
        return sum % base;
    }

    static int missed(long x, int base) {
        String figures = figures(x, base);
        int count = 0;
        for (int i = 0; i < figures.length(); i++) {
            for (int other = 0; other < base; other++) {
                StringBuilder changed = new StringBuilder(figures);
                changed.setCharAt(i, (char) ('0' + other));
                long y = Long.parseLong(changed.toString(), base);
                boolean asMany = figures(y, base).length() == figures.length();
                if (y != x && y <= MOST && asMany && check(y, base) == check(x, base)) {
                    count++;
                }
            }
        }
        return count;
    }

    static int slip(long x, long sum, int base) {
        String right = "0".repeat(70) + figures(x + turned(x, base), base);
        String told = "0".repeat(70) + figures(sum, base);
        for (int i = 0; i < 70; i++) {
            if (right.charAt(right.length() - 1 - i) != told.charAt(told.length() - 1 - i)) {
                return i;
            }
        }
        return -1;
    }

    /** NEXT, or -1. */
    long next(long x) {
        char[] figures = figures(x, base).toCharArray();
        long y = 0;
        switch (kind) {
            case 0:
                y = x + turned(x, base) + a;
                break;
            case 1:
                y = Math.max(x, turned(x, base)) - Math.min(x, turned(x, base));
                break;
            case 3:
                Arrays.sort(figures);
                String rising = new String(figures);
                String falling = new StringBuilder(rising).reverse().toString();
                y = Long.parseLong(falling, base) - Long.parseLong(rising, base);
                break;
            case 4:
                y = 1;
                for (char figure : figures) {
                    y *= figure - '0';
                }
                y += a;
                break;
            default:
                for (char figure : figures) {
                    int f = figure - '0';
                    y += kind == 2 ? f * f : kind == 6 ? f * f * f : values[f];
                }
        }
        return y > MOST ? -1 : y;
    }

    /** The RUN up to a place, or up to its end. */
    List<Long> run(long x, int place) {
        List<Long> run = new ArrayList<>();
        long y = x;
        while (y >= 0 && run.size() <= place) {
            run.add(y);
            y = next(y);
        }
        return run;
    }

    long after(long x, int n) {
        List<Long> run = run(x, n);
        return run.size() > n ? run.get(n) : -1;
    }

    int goes(long x) {
        List<Long> run = run(x, 200);
        for (int g = 0; g < run.size(); g++) {
            if (alike(run.get(g), base)) {
                return g;
            }
        }
        return -1;
    }

    /** Place, length and least number of the ROUND, or null. */
    long[] round(long x) {
        List<Long> run = run(x, 1000);
        for (int i = 0; i < run.size(); i++) {
            for (int j = i + 1; j < run.size(); j++) {
                if (run.get(i).equals(run.get(j))) {
                    long least = Long.MAX_VALUE;
                    for (int k = i; k < j; k++) {
                        least = Math.min(least, run.get(k));
                    }
                    return new long[] {i, j - i, least};
                }
            }
        }
        return null;
    }

    long meet(long x, long y) {
        List<Long> other = run(y, 200);
        for (long z : run(x, 200)) {
            if (other.contains(z)) {
                return z;
            }
        }
        return -1;
    }

    List<Integer> began(long y, int g) {
        List<Integer> began = new ArrayList<>();
        for (int x = 0; x < 10000; x++) {
            if (after(x, g) == y) {
                began.add(x);
            }
        }
        return began;
    }
}
