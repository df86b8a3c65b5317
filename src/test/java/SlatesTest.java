/** Promises 33 to 39: told slates, and the slate in truth. */
public final class SlatesTest {
    private static final int NONE = TurnedAbout.NONE;
    private static final long MOST = 999999999999999L;

    public static void main(String[] args) {
        judged();
        judgedRefused();
        lawsThatFit();
        written();
        goesOn();
        wiped();
        lessons();
        lessonsEnd();
        Due.end();
    }

    private static TurnedAbout withLaws(int... kinds) {
        TurnedAbout x = new TurnedAbout();
        for (int kind : kinds) {
            x.law(kind, 0);
        }
        return x;
    }

    private static void judged() {
        TurnedAbout x = withLaws(0, 1);
        Due.numbers(x, 0, 3, 196, 887, 1675, 7436, 5);
        Due.is("33: right", x.judge(0, 0, 4), NONE);
        Due.is("33: the fifth is wrong", x.judge(0, 0, 5), 4);
        Due.is("33: by TAKE", x.judge(1, 0, 4), 1);
        Due.is("33: one alone", x.judge(1, 0, 1), NONE);
        Due.numbers(x, 1, 3, -1, 5);
        Due.is("33: below 0 where it stands", x.judge(0, 1, 2), 0);
        Due.numbers(x, 1, 3, MOST + 1, 5);
        Due.is("33: above MOST where it stands", x.judge(0, 1, 1), 0);
        Due.numbers(x, 1, 3, 7, -14, 5);
        Due.is("33: below 0 behind", x.judge(0, 1, 3), 1);
        Due.numbers(x, 1, 3, MOST, MOST + MOST);
        Due.is("33: no NEXT", x.judge(0, 1, 2), 1);
        Due.numbers(x, 1, 3, MOST, -1);
        Due.is("33: no NEXT is no -1", x.judge(0, 1, 2), 1);
        Due.numbers(x, 1, 3, (1L << 32) + 7, 14);
        Due.is("33: by whole elements", x.judge(0, 1, 2), 1);
        Due.numbers(x, 1, 0, 99, -58);
        Due.is("33: bytes as they are", x.judge(0, 1, 2), 1);
        x.base(2);
        Due.numbers(x, 1, 2, 6, 9, 18);
        Due.is("33: by BASE", x.judge(0, 1, 3), NONE);
        x.row(2, 2, 20);
        Due.is("33: twenty noughts", x.judge(0, 2, 20), NONE);
    }

    private static void judgedRefused() {
        TurnedAbout x = withLaws(0);
        x.row(0, 3, 30);
        x.show(1, 0);
        Due.is("33: no law", x.judge(1, 0, 1), -11);
        Due.is("33: no shelf", x.judge(0, 8, -1), -11);
        Due.is("33: a law", x.judge(0, 1, -1), -12);
        Due.is("33: nothing", x.judge(0, 2, -1), -13);
        Due.is("33: -1", x.judge(0, 0, -1), -14);
        Due.is("33: 31", x.judge(0, 0, 31), -15);
        Due.is("33: 21", x.judge(0, 0, 21), -16);
        Due.is("33: 0", x.judge(0, 0, 0), -16);
        Due.is("34: no shelf", x.laws(-1, -1), -1);
        Due.is("34: a law", x.laws(1, -1), -2);
        Due.is("34: nothing", x.laws(2, -1), -3);
        Due.is("34: -1", x.laws(0, -1), -4);
        Due.is("34: 31", x.laws(0, 31), -5);
        Due.is("34: 21", x.laws(0, 21), -6);
        Due.is("34: 0", x.laws(0, 0), -6);
        int[] wants = {3, 2, 2, 2, 2, 4, 0};
        for (int i = 0; i < wants.length; i++) {
            Due.is("33, 34: refused " + (i + 1), x.status(11 + i), wants[i]);
        }
    }

    private static void lawsThatFit() {
        TurnedAbout x = withLaws(0, 1, 3, 1);
        Due.numbers(x, 0, 2, 21, 9, 0);
        Due.is("34: TAKE twice and ORDER", x.laws(0, 3), 2 + 4 + 8);
        Due.numbers(x, 0, 2, 21, 33);
        Due.is("34: LAW", x.laws(0, 2), 1);
        Due.is("34: one alone", x.laws(0, 1), 15);
        Due.numbers(x, 0, 2, -21);
        Due.is("34: one that may not be", x.laws(0, 1), 0);
        TurnedAbout none = new TurnedAbout();
        Due.numbers(none, 0, 2, 21);
        Due.is("34: no laws", none.laws(0, 1), 0);
    }

    private static void written() {
        TurnedAbout x = new TurnedAbout();
        Due.is("36: none yet", x.slate(0), -5);
        Due.is("35: -1", x.write(-1), -6);
        Due.is("35: above MOST", x.write(MOST + 1), -6);
        Due.is("35: MOST", x.write(MOST), 1);
        for (int i = 1; i < 20; i++) {
            Due.is("35: write", x.write(i), i + 1);
        }
        Due.is("35: room", x.write(5), -7);
        Due.is("35: -6 ahead of room", x.write(-5), -6);
        Due.is("36: first", x.slate(0), MOST);
        Due.is("36: last", x.slate(19), 19);
        Due.is("36: 20", x.slate(20), -5);
        Due.is("36: -1", x.slate(-1), -5);
        Due.is("36: refused", x.status(15), 3);
        Due.is("35: refused", x.status(17), 1);
    }

    private static void goesOn() {
        TurnedAbout x = withLaws(0, 1);
        Due.is("37: no law", x.on(2, 0), -1);
        Due.is("37: empty", x.on(0, 1), -6);
        x.write(196);
        Due.is("37: 0", x.on(0, 0), -6);
        Due.is("37: 21", x.on(0, 21), -6);
        Due.is("37: two", x.on(0, 2), 2);
        Due.is("37: them", x.slate(2), 1675);
        Due.is("37: by another", x.on(1, 1), 1);
        Due.is("37: 5761 less 1675", x.slate(3), 4086);
        Due.is("37: as long as there is room", x.on(1, 20), 16);
        Due.is("37: no room is no refusal", x.on(1, 20), 0);
        x.wipe(20);
        x.write(900000000000001L);
        Due.is("37: as long as there is NEXT", x.on(0, 20), 0);
        x.write(100000000000001L);
        Due.is("37: two goes, then none", x.on(0, 20), 3);
        Due.is("37: the last", x.slate(4), 800000000000008L);
        Due.is("37: refused", x.status(16), 3);
    }

    private static void wiped() {
        TurnedAbout x = new TurnedAbout();
        Due.is("38: none there", x.wipe(5), 0);
        for (int i = 0; i < 7; i++) {
            x.write(i);
        }
        Due.is("38: none", x.wipe(0), 7);
        Due.is("38: two", x.wipe(2), 5);
        Due.is("38: the last now", x.slate(4), 4);
        Due.is("38: gone", x.slate(5), -5);
        Due.is("38: -1", x.wipe(-1), -6);
        Due.is("38: 21", x.wipe(21), -6);
        Due.is("38: left", x.status(1), 5);
        Due.is("38: more than there are", x.wipe(20), 0);
    }

    /** The draws once more, and the lessons by calls on another object. */
    private static void lessons() {
        for (int seed = -40; seed < 400; seed += 11) {
            TurnedAbout x = withLaws(0, 2, 3, 6);
            TurnedAbout y = withLaws(0, 2, 3, 6);
            x.write(77);
            x.seed(seed);
            int drawn = seed;
            int want = 0;
            int n = 1 + (seed + 40) % 9;
            for (int i = 0; i < n; i++) {
                y.wipe(20);
                drawn = drawn * 1103515245 + 12345;
                y.write((drawn >>> 16) % 1000);
                drawn = drawn * 1103515245 + 12345;
                int law = (drawn >>> 16) % 4;
                while (y.numberOf(y.slate(y.status(1) - 1), 2) == 0 && y.on(law, 1) == 1) {
                    continue;
                }
                want += y.numberOf(y.slate(y.status(1) - 1), 2);
            }
            Due.is("39: lessons by " + seed, x.lessons(n), want);
            Due.is("39: seed", x.status(3), drawn);
            Due.is("39: slate", x.status(1), y.status(1));
            for (int i = 0; i < y.status(1); i++) {
                Due.is("39: number " + i, x.slate(i), y.slate(i));
            }
        }
    }

    private static void lessonsEnd() {
        TurnedAbout x = new TurnedAbout();
        Due.is("39: no laws", x.lessons(0), -5);
        x.law(0, 0);
        Due.is("39: 0", x.lessons(0), -6);
        Due.is("39: 10", x.lessons(10), -6);
        Due.is("39: nothing drawn", x.status(3), 1);
        Due.is("39: refused", x.status(15) * 10 + x.status(16), 12);
    }
}
