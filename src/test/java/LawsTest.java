/** Promises 9 to 12 and 40 to 45: base, laws and their values, seed, acts and their trace, the image, status. */
public final class LawsTest {
    private static final int NONE = TurnedAbout.NONE;

    public static void main(String[] args) {
        bases();
        lawsMade();
        values();
        seeds();
        actsOfPlainLaws();
        actsOfLawsUnder();
        tracesEnd();
        images();
        shelvesRestored();
        statuses();
        Due.end();
    }

    private static void bases() {
        TurnedAbout x = new TurnedAbout();
        Due.is("9: to 2", x.base(2), 10);
        Due.is("9: to 10", x.base(10), 2);
        Due.is("9: to 7", x.base(7), 10);
        Due.is("9: 1", x.base(1), -6);
        Due.is("9: 11", x.base(11), -6);
        Due.is("9: -7", x.base(-7), -6);
        Due.is("9: stays", x.status(2), 7);
        Due.is("9: refused", x.status(16), 3);
    }

    private static void lawsMade() {
        TurnedAbout x = new TurnedAbout();
        Due.is("10: kind 7 ahead of a", x.law(7, 10), -1);
        Due.is("10: kind -1", x.law(-1, 0), -1);
        Due.is("10: a 10", x.law(0, 10), -6);
        Due.is("10: a -1", x.law(0, -1), -6);
        for (int place = 0; place < 6; place++) {
            Due.is("10: place", x.law(6 - place, 9 - place), place);
        }
        Due.is("10: a ahead of room", x.law(0, 10), -6);
        Due.is("10: room", x.law(0, 0), -7);
        for (int place = 0; place < 6; place++) {
            Due.is("12: kind", x.lawOf(place, 0), 6 - place);
            Due.is("12: a", x.lawOf(place, 1), 9 - place);
        }
        Due.is("12: not told", x.lawOf(0, 10), 0);
        Due.is("12: no law 6", x.lawOf(6, 0), -5);
        Due.is("12: no law -1", x.lawOf(-1, 0), -5);
        int[] others = {-1, 2, 9, 20, Integer.MIN_VALUE, Integer.MAX_VALUE};
        for (int what : others) {
            Due.is("12: what " + what, x.lawOf(1, what), -5);
        }
        Due.is("12: refused", x.status(15), 8);
    }

    private static void values() {
        TurnedAbout x = new TurnedAbout();
        x.law(5, 0);
        x.law(2, 0);
        Due.is("11: was 0", x.value(0, 9, 999), 0);
        Due.is("11: was 999", x.value(0, 9, 0), 999);
        Due.is("11: figure 0", x.value(0, 0, 17), 0);
        Due.is("12: value", x.lawOf(0, 10), 17);
        Due.is("12: value of 9", x.lawOf(0, 19), 0);
        x.base(2);
        Due.is("11: a figure that BASE has not", x.value(0, 9, 3), 0);
        Due.is("12: is told", x.lawOf(0, 19), 3);
        Due.is("11: no law", x.value(2, 10, 1000), -1);
        Due.is("11: no law -1", x.value(-1, 0, 0), -1);
        Due.is("11: another kind", x.value(1, 0, 0), -6);
        Due.is("11: figure 10", x.value(0, 10, 0), -6);
        Due.is("11: figure -1", x.value(0, -1, 0), -6);
        Due.is("11: 1000", x.value(0, 0, 1000), -6);
        Due.is("11: -1", x.value(0, 0, -1), -6);
        Due.is("11: stays", x.lawOf(0, 10), 17);
        Due.is("11: refused", x.status(16), 5);
    }

    private static void seeds() {
        TurnedAbout x = new TurnedAbout();
        Due.is("40: was 1", x.seed(Integer.MIN_VALUE), 1);
        Due.is("40: was", x.seed(-3), Integer.MIN_VALUE);
        Due.is("40: is", x.status(3), -3);
    }

    private static void actIs(TurnedAbout x, int law, int act, int with, int want, int... bodies) {
        String call = "41: act " + law + " " + act + " " + with;
        Due.is(call, x.act(law, act, with), want);
        Due.is(call + ", bodies", x.status(4), bodies.length);
        for (int i = 0; i < bodies.length; i++) {
            Due.is("42: " + call + ", body " + i, x.trace(i), bodies[i]);
        }
        Due.is("42: " + call + ", behind", x.trace(bodies.length), NONE);
    }

    private static void actsOfPlainLaws() {
        TurnedAbout x = new TurnedAbout();
        x.law(5, 0);
        x.law(0, 3);
        actIs(x, 1, 0, 10, 11, 10);
        actIs(x, 1, 1, 10, 22, 11, 10);
        // adds(10) is 22, turns(7) is 8
        actIs(x, 1, 2, 10, 22 ^ 8, 12, 11, 10, 10);
        x.law(1, 5);
        actIs(x, 2, 0, 10, 10 + 2 + 5, 20, 10);
        actIs(x, 2, 1, 10, 34, 11, 20, 10);
        actIs(x, 2, 2, 10, 34 ^ 12, 12, 11, 20, 10, 20, 10);
        actIs(x, 2, 0, Integer.MAX_VALUE, Integer.MIN_VALUE + 6, 20, 10);
    }

    private static void actsOfLawsUnder() {
        TurnedAbout x = new TurnedAbout();
        int[] kinds = {0, 2, 3, 4, 5, 6};
        for (int kind : kinds) {
            x.law(kind, 4);
        }
        actIs(x, 1, 0, 6, 7, 10);
        actIs(x, 1, 1, 6, 42, 30, 11, 10);
        actIs(x, 1, 2, 6, 42 ^ 3, 12, 30, 11, 10, 10);
        actIs(x, 2, 0, 6, 12, 20, 10);
        actIs(x, 2, 1, 6, 26, 40, 11, 20, 10);
        actIs(x, 2, 2, 6, 26 ^ 8, 12, 40, 11, 20, 10, 20, 10);
        actIs(x, 3, 0, 6, 6, 51, 10);
        actIs(x, 3, 1, 6, 12, 11, 51, 10);
        actIs(x, 3, 2, 6, -(12 ^ 2), 50, 12, 11, 51, 10, 51, 10);
        actIs(x, 4, 0, 6, 10, 10);
        actIs(x, 4, 1, 6, 60, 30, 11, 10);
        actIs(x, 4, 2, 6, 60 ^ 6 ^ 5, 60, 12, 30, 11, 10, 10);
        actIs(x, 5, 0, 6, 22, 70, 10);
        actIs(x, 5, 1, 6, (2 + 5) * 2 * 2 * 3, 71, 30, 11, 70, 10);
        actIs(x, 5, 2, 6, 84 ^ 14, 12, 71, 30, 11, 70, 10, 70, 10);
    }

    private static void tracesEnd() {
        TurnedAbout x = new TurnedAbout();
        x.law(0, 0);
        x.act(0, 2, 1);
        Due.is("42: -1", x.trace(-1), NONE);
        Due.is("42: 20", x.trace(20), NONE);
        Due.is("42: far", x.trace(Integer.MAX_VALUE), NONE);
        Due.is("41: no such act", x.act(0, 3, 5), 0);
        Due.is("42: none then", x.trace(0), NONE);
        Due.is("45: no bodies then", x.status(4), 0);
        x.act(0, 0, 1);
        Due.is("41: no such law", x.act(1, 0, 5), 0);
        Due.is("42: none then, either", x.trace(0), NONE);
        Due.is("41: act -1", x.act(0, -1, 5), 0);
        for (int what = 11; what <= 17; what++) {
            Due.is("41: nothing refused " + what, x.status(what), 0);
        }
    }

    private static void images() {
        TurnedAbout x = new TurnedAbout();
        Due.is("44: none yet", x.restore(), -6);
        x.law(5, 1);
        x.value(0, 4, 44);
        x.write(17);
        x.seed(99);
        x.base(5);
        x.row(7, 0, 1);
        Due.is("43: image", x.image(), 1);
        x.law(0, 2);
        x.value(0, 4, 45);
        x.write(18);
        x.wipe(2);
        x.write(19);
        x.seed(5);
        x.base(6);
        x.set(7, 0, 9);
        x.act(0, 0, 5);
        Due.letters(x, 6, "x");
        x.text(6);
        Due.is("44: restore", x.restore(), 1);
        Due.is("44: laws", x.status(0), 1);
        Due.is("44: values", x.lawOf(0, 14), 44);
        Due.is("44: slate", x.status(1), 1);
        Due.is("44: number", x.slate(0), 17);
        Due.is("44: seed", x.status(3), 99);
        Due.is("44: base", x.status(2), 5);
        Due.is("44: shelves stay", x.element(7, 0), 9);
        Due.is("44: the trace stays", x.trace(0), 10);
        Due.is("44: bodies stay", x.status(4), 1);
        Due.is("44: the fault stays", x.fault(), 0);
        Due.is("44: refusals stay", x.status(16), 2);
        x.seed(1000);
        Due.is("44: once more", x.restore(), 1);
        Due.is("44: seed once more", x.status(3), 99);
    }

    private static void shelvesRestored() {
        TurnedAbout x = new TurnedAbout();
        x.law(0, 1);
        x.image();
        x.law(5, 2);
        x.value(1, 3, 33);
        x.show(0, 0);
        x.show(1, 1);
        x.row(2, 0, 1);
        Due.is("44: restore", x.restore(), 1);
        Due.is("44: holds place 0", x.holds(0), 0);
        Due.is("44: holds nothing", x.holds(1), NONE);
        Due.is("44: holds its row", x.holds(2), 100);
        Due.is("44: says", x.says(1, 0), -3);
        x.law(5, 4);
        Due.is("10: its values are 0", x.lawOf(1, 13), 0);
        x.image();
        x.show(1, 1);
        x.restore();
        Due.is("44: holds place 1", x.holds(1), 1);
        Due.is("44: that law", x.says(1, 0), 4);
        TurnedAbout y = new TurnedAbout();
        y.image();
        y.law(2, 3);
        y.show(0, 0);
        Due.is("44: none left", y.restore(), 0);
        Due.is("44: nothing there", y.holds(0), NONE);
        y.law(6, 5);
        y.show(0, 0);
        y.image();
        Due.is("44: the later image", y.restore(), 1);
        Due.is("44: its law", y.says(0, 6), 9);
    }

    private static void statuses() {
        TurnedAbout x = new TurnedAbout();
        int[] others = {-1, 5, 10, 18, Integer.MIN_VALUE, Integer.MAX_VALUE};
        for (int what : others) {
            Due.is("45: what " + what, x.status(what), NONE);
        }
        x.law(0, 0);
        x.write(1);
        x.next(9, 1);
        x.show(0, 0);
        x.text(0);
        x.text(1);
        x.row(1, 0, -1);
        x.slate(1);
        x.slate(2);
        x.turned(-1);
        x.next(0, 999999999999999L);
        int[] wants = {1, 1, 1, 1, 2, 1, 1};
        for (int i = 0; i < wants.length; i++) {
            Due.is("45: refused " + (i + 1), x.status(11 + i), wants[i]);
        }
        Due.is("45: laws", x.status(0), 1);
        Due.is("45: slate", x.status(1), 1);
    }
}
