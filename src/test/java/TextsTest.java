import java.util.Random;

/** Promises 13 and 14: texts and where they can't stand. */
public final class TextsTest {
    private static final int NONE = TurnedAbout.NONE;

    public static void main(String[] args) {
        goodText();
        refused();
        faultsInLetters();
        faultsInNumbers();
        faultsAsThingsStand();
        noRoom();
        nothingIsDone();
        sortsOfRows();
        asTheCallsDo();
        Due.end();
    }

    private static void goodText() {
        TurnedAbout x = new TurnedAbout();
        Due.letters(x, 0, "base 3;law 5 0;value 0 2 7;law 0 4;write 14;go 1;go 0");
        Due.is("13: items", x.text(0), 7);
        Due.is("14: no fault", x.fault(), NONE);
        Due.is("13: base", x.status(2), 3);
        Due.is("13: value", x.lawOf(0, 12), 7);
        Due.is("13: a", x.lawOf(1, 1), 4);
        Due.is("13: 112 and 211 and 4", x.slate(1), 40);
        Due.is("13: four ones told", x.slate(2), 0);
        Due.letters(x, 1, "write 000012");
        Due.is("13: noughts ahead", x.text(1), 1);
        Due.is("13: over what there is", x.slate(3), 12);
        Due.letters(x, 1, "write 999999;base 09");
        Due.is("13: six digits", x.text(1), 2);
        Due.is("13: them", x.slate(4), 999999);
        Due.is("13: nine", x.status(2), 9);
    }

    private static void refused() {
        TurnedAbout x = new TurnedAbout();
        Due.is("14: none yet", x.fault(), NONE);
        Due.is("13: shelf 8", x.text(8), -1);
        Due.is("13: shelf -1", x.text(-1), -1);
        Due.is("13: nothing", x.text(0), -3);
        x.law(0, 0);
        x.show(1, 0);
        Due.is("13: a law", x.text(1), -2);
        x.row(2, 0, 0);
        Due.is("13: no letters", x.text(2), -6);
        Due.is("14: at the end", x.fault(), 0);
        x.text(8);
        x.text(0);
        x.text(1);
        Due.is("14: of the latest that came to a row", x.fault(), 0);
        Due.letters(x, 2, "base 5");
        Due.is("13: a good one", x.text(2), 1);
        Due.is("14: none again", x.fault(), NONE);
        Due.is("13: refused", x.status(11) * 1000 + x.status(12) * 100 + x.status(13) * 10 + x.status(16), 3221);
    }

    /** A text that an object with a TOLD law at 0, a LAW at 1 and a number 12 on the slate can't take. */
    private static void faultIs(String text, int want) {
        TurnedAbout x = new TurnedAbout();
        x.law(5, 0);
        x.law(0, 0);
        x.write(12);
        Due.letters(x, 0, text);
        Due.is("13: " + text, x.text(0), -6);
        Due.is("14: " + text, x.fault(), want);
    }

    private static void faultsInLetters() {
        faultIs("x", 0);
        faultIs(" base 3", 0);
        faultIs("bsae 3", 1);
        faultIs("bas", 3);
        faultIs("base", 4);
        faultIs("base3", 4);
        faultIs("basex 3", 4);
        faultIs("base ", 5);
        faultIs("base  3", 5);
        faultIs("base x", 5);
        faultIs("base 3 ", 6);
        faultIs("base 3x", 6);
        faultIs("base 3,base 4", 6);
        faultIs("base 3;", 7);
        faultIs("base 3;;base 4", 7);
        faultIs("base 3; base 4", 7);
        faultIs("base 3 4", 6);
        faultIs("BASE 3", 0);
        faultIs("law 0", 5);
        faultIs("law 0 ", 6);
        faultIs("law 0;0", 5);
        faultIs("law 0 0 0", 7);
        faultIs("value 0 1", 9);
        faultIs("value 0 1 ", 10);
        faultIs("value 0 1 5 5", 11);
        faultIs("write -1", 6);
        faultIs("wrote 1", 2);
        faultIs("write 1;g", 9);
        faultIs("got 1", 2);
        faultIs("write 1;go", 10);
        faultIs("write 1;go ", 11);
        faultIs("go 1;go 1;q", 10);
    }

    private static void faultsInNumbers() {
        faultIs("base 1", 5);
        faultIs("base 11", 5);
        faultIs("base 10000000", 5);
        faultIs("base 1x", 5);
        faultIs("write 1234567", 12);
        faultIs("write 0000000", 12);
        faultIs("law 7 0", 4);
        faultIs("law 0 10", 6);
        faultIs("value 1 0 0", 6);
        faultIs("value 2 0 0", 6);
        faultIs("value 1", 6);
        faultIs("value 0 10 0", 8);
        faultIs("value 0 0 1000", 10);
        faultIs("go 2", 3);
        faultIs("go 02", 3);
        faultIs("go 10", 3);
    }

    private static void faultsAsThingsStand() {
        TurnedAbout x = new TurnedAbout();
        Due.letters(x, 0, "base 3;go x");
        x.text(0);
        Due.is("14: go without a number, ahead of L", x.fault(), 7);
        Due.letters(x, 0, "write 3;go 0");
        x.text(0);
        Due.is("14: go by no law", x.fault(), 11);
        Due.letters(x, 0, "value 0 0 0");
        x.text(0);
        Due.is("14: no law yet", x.fault(), 6);
        x.law(0, 0);
        x.write(999999999999999L);
        Due.letters(x, 0, "go 0");
        x.text(0);
        Due.is("14: no NEXT", x.fault(), 0);
        Due.letters(x, 0, "base 9;go 1");
        x.text(0);
        Due.is("14: no NEXT, behind L", x.fault(), 10);
        Due.letters(x, 0, "law 1 0;value 1 2 3");
        x.text(0);
        Due.is("14: value of another kind", x.fault(), 14);
        Due.letters(x, 0, "law 5 0;value 1 2 3;go 1");
        Due.is("13: a law of this text", x.text(0), 3);
    }

    private static void noRoom() {
        TurnedAbout x = new TurnedAbout();
        for (int i = 0; i < 5; i++) {
            x.law(0, 0);
        }
        for (int i = 0; i < 19; i++) {
            x.write(i + 1);
        }
        Due.letters(x, 0, "law 1 1;law 9 9");
        x.text(0);
        Due.is("14: no room for a law", x.fault(), 8);
        Due.letters(x, 0, "write 1;write x");
        x.text(0);
        Due.is("14: no room for a number", x.fault(), 8);
        Due.letters(x, 0, "go 0;go 7");
        x.text(0);
        Due.is("14: no room for a go", x.fault(), 5);
        Due.is("13: nothing written", x.status(1), 19);
        Due.letters(x, 0, "law 1 1;go 5");
        Due.is("13: the last room", x.text(0), 2);
        Due.is("13: full", x.status(1), 20);
        Due.is("13: full of laws", x.status(0), 6);
    }

    private static void nothingIsDone() {
        TurnedAbout x = new TurnedAbout();
        x.law(5, 0);
        x.value(0, 1, 11);
        x.write(5);
        Due.letters(x, 0, "base 3;law 0 0;value 0 1 12;write 7;go 0;base 1");
        Due.is("13: a fault at the end", x.text(0), -6);
        Due.is("13: base", x.status(2), 10);
        Due.is("13: laws", x.status(0), 1);
        Due.is("13: slate", x.status(1), 1);
        Due.is("13: value", x.lawOf(0, 11), 11);
        x.law(5, 0);
        Due.is("13: no value of a law that wasn't", x.lawOf(1, 11), 0);
    }

    private static void sortsOfRows() {
        for (int sort = 0; sort < 4; sort++) {
            TurnedAbout x = new TurnedAbout();
            Due.letters(x, 0, sort, "base 6;write 77");
            Due.is("13: sort " + sort, x.text(0), 2);
        }
        TurnedAbout x = new TurnedAbout();
        Due.letters(x, 0, 3, "base 6");
        x.set(0, 5, (7L << 32) + '8');
        Due.is("13: the lowest 32 bits of longs", x.text(0), 1);
        Due.is("13: by them", x.status(2), 8);
        Due.letters(x, 0, 0, "base 6");
        x.set(0, 0, 'b' + 256);
        Due.is("13: bytes", x.text(0), 1);
        Due.letters(x, 0, 1, "base 6");
        x.set(0, 0, 'b' + 256);
        Due.is("13: shorts", x.text(0), -6);
        Due.is("14: shorts", x.fault(), 0);
    }

    /** Good texts do what the calls with the same numbers do. */
    private static void asTheCallsDo() {
        Random draw = new Random(5);
        for (int run = 0; run < 300; run++) {
            TurnedAbout byText = new TurnedAbout();
            TurnedAbout byCalls = new TurnedAbout();
            StringBuilder text = new StringBuilder();
            int items = 0;
            boolean full = false;
            while (!full) {
                String item = item(draw, byCalls);
                full = text.length() + item.length() + 1 > 160;
                if (!full && carryOut(item, byCalls)) {
                    text.append(items > 0 ? ";" : "").append(item);
                    items++;
                }
            }
            Due.letters(byText, 0, text.toString());
            Due.is("13: " + text, byText.text(0), items);
            same(text.toString(), byText, byCalls);
        }
    }

    private static String item(Random draw, TurnedAbout x) {
        switch (draw.nextInt(5)) {
            case 0:
                return "base " + (2 + draw.nextInt(9));
            case 1:
                return "law " + draw.nextInt(7) + " " + draw.nextInt(10);
            case 2:
                return "value " + draw.nextInt(6) + " " + draw.nextInt(10) + " " + draw.nextInt(1000);
            case 3:
                return "write " + draw.nextInt(1000000);
            default:
                return "go " + draw.nextInt(6);
        }
    }

    private static boolean carryOut(String item, TurnedAbout x) {
        String[] words = item.split(" ");
        int first = Integer.parseInt(words[1]);
        switch (words[0]) {
            case "base":
                return x.base(first) > 0;
            case "law":
                return x.law(first, Integer.parseInt(words[2])) >= 0;
            case "value":
                return x.value(first, Integer.parseInt(words[2]), Integer.parseInt(words[3])) >= 0;
            case "write":
                return x.write(first) > 0;
            default:
                return x.on(first, 1) == 1;
        }
    }

    private static void same(String text, TurnedAbout x, TurnedAbout y) {
        for (int what = 0; what < 4; what++) {
            Due.is(text + ": status " + what, x.status(what), y.status(what));
        }
        for (int i = 0; i < 20; i++) {
            Due.is(text + ": number " + i, x.slate(i), y.slate(i));
        }
        for (int law = 0; law < 6; law++) {
            for (int what = 0; what < 20; what++) {
                Due.is(text + ": law " + law + " " + what, x.lawOf(law, what), y.lawOf(law, what));
            }
        }
    }
}
