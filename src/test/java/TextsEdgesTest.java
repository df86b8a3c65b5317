/**
 * Promises 13 and 14 with their terms and Details: a test of its own for each sentence on texts that names an edge.
 * Texts are told to an object with a TOLD law at 0, a LAW at 1 and the number 12 on THE SLATE.
 */
public final class TextsEdgesTest {
    private static final int NONE = TurnedAbout.NONE;
    private static final long MOST = 999999999999999L;

    public static void main(String[] args) {
        itemsBySemicolons();
        baseN();
        lawKA();
        valueLFV();
        writeN();
        goL();
        oneBlank();
        oneToSixDigits();
        numbersBeginWith0();
        allOrNothing();
        noRoomForALaw();
        noRoomForANumber();
        noRoomForAGo();
        goWithoutANumber();
        goWithoutNext();
        valueOfAnotherKind();
        endsTooEarly();
        firstOfSeveral();
        lettersInRows();
        refused();
        latestFault();
        Due.end();
    }

    private static TurnedAbout made() {
        TurnedAbout x = new TurnedAbout();
        x.law(5, 0);
        x.law(0, 0);
        x.write(12);
        return x;
    }

    /** The text is told whole, so many ITEMS. */
    private static TurnedAbout told(String text, int items) {
        TurnedAbout x = made();
        told(x, text, items);
        return x;
    }

    private static void told(TurnedAbout x, String text, int items) {
        Due.letters(x, 7, text);
        Due.is("13: " + text, x.text(7), items);
        Due.is("14: " + text, x.fault(), NONE);
    }

    private static void fault(String text, int place) {
        TurnedAbout x = made();
        fault(x, text, place);
        Due.is("13: laws by " + text, x.status(0), 2);
        Due.is("13: numbers by " + text, x.status(1), 1);
        Due.is("13: BASE by " + text, x.status(2), 10);
    }

    private static void fault(TurnedAbout x, String text, int place) {
        int wrong = x.status(16);
        Due.letters(x, 7, text);
        Due.is("13: " + text, x.text(7), -6);
        Due.is("14: " + text, x.fault(), place);
        Due.is("13: counted " + text, x.status(16), wrong + 1);
    }

    /** ITEM, then any number of times ; and ITEM. how many ITEMS. */
    private static void itemsBySemicolons() {
        told("base 3", 1);
        told("base 3;base 4", 2);
        StringBuilder text = new StringBuilder("go 1");
        for (int i = 2; i <= 19; i++) {
            text.append(";go 1");
            told(text.toString(), i);
        }
        // 160 elements, as many as a ROW has room for
        told("base 5;".repeat(22) + "base 9", 23);
        fault("", 0);
        fault(";", 0);
        fault(";base 3", 0);
        fault("base 3;", 7);
        fault("base 3;;base 4", 7);
        fault("base 3 ;base 4", 6);
        fault("base 3; base 4", 7);
        fault("base 3:base 4", 6);
        fault(" base 3", 0);
        fault("base 3 ", 6);
    }

    /** base N. */
    private static void baseN() {
        Due.is("13: base 2", told("base 2", 1).status(2), 2);
        Due.is("13: base 10", told("base 10", 1).status(2), 10);
        fault("base 1", 5);
        fault("base 0", 5);
        fault("base 11", 5);
        fault("base 2 3", 6);
        fault("bass 2", 3);
        fault("Base 2", 0);
    }

    /** law K A (KIND, a). */
    private static void lawKA() {
        TurnedAbout x = told("law 0 0;law 6 9", 2);
        Due.is("13: KIND 0", x.lawOf(2, 0) + x.lawOf(2, 1), 0);
        Due.is("13: KIND 6", x.lawOf(3, 0), 6);
        Due.is("13: a 9", x.lawOf(3, 1), 9);
        fault("law 7 0", 4);
        fault("law 7 10", 4);
        fault("law 0 10", 6);
        fault("law 6 99x", 6);
        fault("law 0", 5);
        fault("law 0 1 2", 7);
    }

    /** value L F V (a TOLD LAW, a FIGURE, its VALUE). */
    private static void valueLFV() {
        TurnedAbout x = told("value 0 0 999;value 0 9 0;value 0 9 1", 3);
        Due.is("13: VALUE of 0", x.lawOf(0, 10), 999);
        Due.is("13: VALUE of 9", x.lawOf(0, 19), 1);
        Due.is("13: of a law of this text", told("law 5 0;value 2 1 5", 2).lawOf(2, 11), 5);
        fault("value 2 0 0", 6);
        fault("value 0 10 0", 8);
        fault("value 0 10 1000", 8);
        fault("value 0 0 1000", 10);
        fault("value 0 0", 9);
        fault("value 0 0 0 0", 11);
    }

    /** write N (a number below THE SLATE's last). */
    private static void writeN() {
        TurnedAbout x = told("write 0;write 999999", 2);
        Due.is("13: 0", x.slate(1), 0);
        Due.is("13: below it", x.slate(2), 999999);
        fault("write -1", 6);
        fault("write 1 2", 7);
        fault("write x", 6);
    }

    /** go L (NEXT of the last by a LAW below it). */
    private static void goL() {
        TurnedAbout x = told("go 1;go 1", 2);
        Due.is("13: 33", x.slate(1), 33);
        Due.is("13: 66", x.slate(2), 66);
        Due.is("13: in the BASE of this text, 22 and 22 and 0", told("base 5;go 1", 2).slate(1), 24);
        Due.is("13: by a law of this text", told("law 1 0;go 2", 2).slate(1), 9);
        Due.is("13: of a number of this text", told("write 50;go 1", 2).slate(2), 55);
        fault("go 2", 3);
        fault("go 2;law 1 0", 3);
        fault("go 1 1", 4);
        fault("go", 2);
    }

    /** One blank between words and NUMBERS. */
    private static void oneBlank() {
        fault("base3", 4);
        fault("base  3", 5);
        fault("law 0  0", 6);
        fault("law 00", 6);
        fault("law\t0 0", 3);
        fault("value 0 0  0", 10);
        fault("go1", 2);
        fault("go  1", 3);
    }

    /** NUMBERS (1 to 6 digits). The FAULT: of a NUMBER that may not be the place of its first digit. */
    private static void oneToSixDigits() {
        Due.is("13: six digits", told("write 123456", 1).slate(1), 123456);
        Due.is("13: one digit", told("write 1", 1).slate(1), 1);
        fault("write ", 6);
        fault("write ;", 6);
        fault("write 1234567", 12);
        fault("write 0000001", 12);
        fault("base 000003x", 11);
        fault("base 0000103", 11);
        fault("base 0000003", 5);
        fault("base 100000", 5);
        fault("base 1000000", 5);
        fault("write /", 6);
        fault("write :", 6);
        fault("write 1/", 7);
        fault("write 1:", 7);
        fault("write 0x1", 7);
        fault("write +1", 6);
    }

    /** Detail: Numbers of a text may begin with 0. Numbers in letters are in ten. */
    private static void numbersBeginWith0() {
        Due.is("13: 000007", told("write 000007", 1).slate(1), 7);
        Due.is("13: base 003", told("base 003", 1).status(2), 3);
        Due.is("13: law 06 09", told("law 06 09", 1).lawOf(2, 1), 9);
        Due.is("13: value 00 01 0999", told("value 00 01 0999", 1).lawOf(0, 11), 999);
        Due.is("13: go 000001", told("go 000001", 1).slate(1), 33);
        Due.is("13: in ten, not in 2", told("base 2;write 29", 2).slate(1), 29);
        fault("base 011", 5);
        fault("go 02", 3);
    }

    /** All is told over what there is, or nothing. */
    private static void allOrNothing() {
        TurnedAbout x = made();
        x.value(0, 1, 7);
        x.seed(5);
        fault(x, "base 3;law 1 1;value 0 1 8;write 5;go 1;wrote", 42);
        Due.is("13: BASE", x.status(2), 10);
        Due.is("13: LAWS", x.status(0), 2);
        Due.is("13: VALUE", x.lawOf(0, 11), 7);
        Due.is("13: THE SLATE", x.status(1), 1);
        Due.is("13: its number", x.slate(0), 12);
        told(x, "base 3;law 1 1;value 0 1 8;write 5;go 1", 5);
        Due.is("13: BASE 3", x.status(2), 3);
        Due.is("13: LAWS 3", x.status(0), 3);
        Due.is("13: VALUE 8", x.lawOf(0, 11), 8);
        Due.is("13: number 12 stays", x.slate(0), 12);
        Due.is("13: 5 is 12 in 3: 5 and 7", x.slate(2), 12);
        Due.is("13: SEED stays", x.status(3), 5);
    }

    /** what there is no room for: its word. */
    private static void noRoomForALaw() {
        TurnedAbout x = made();
        told(x, "law 0 0;law 0 0;law 0 0;law 0 0", 4);
        fault(x, "law 0 0", 0);
        fault(x, "base 3;law 0 0", 7);
        fault(x, "base 3;law 9 9", 7);
        fault(x, "base 3;law", 7);
        fault(x, "base 3;lax", 9);
        fault("law 0 0;law 0 0;law 0 0;law 0 0;law 0 0", 32);
    }

    private static void noRoomForANumber() {
        TurnedAbout x = made();
        for (int i = 0; i < 18; i++) {
            x.write(i);
        }
        fault(x, "write 1;write 2", 8);
        Due.is("13: 19 numbers", x.status(1), 19);
        told(x, "write 1", 1);
        fault(x, "write 1", 0);
        fault(x, "write x", 0);
        fault(x, "write", 0);
        fault(x, "writ", 4);
    }

    private static void noRoomForAGo() {
        TurnedAbout x = made();
        for (int i = 0; i < 18; i++) {
            x.write(i);
        }
        fault(x, "go 1;go 1", 5);
        told(x, "go 1", 1);
        fault(x, "go 1", 0);
        fault(x, "go 9", 0);
        fault(x, "go", 0);
        fault(x, "g", 1);
    }

    /** Detail: go without a number is a FAULT at its word, ahead of L. */
    private static void goWithoutANumber() {
        TurnedAbout x = new TurnedAbout();
        fault(x, "go 0", 0);
        fault(x, "go 9", 0);
        fault(x, "go x", 0);
        fault(x, "go", 0);
        fault(x, "law 0 0;go 0", 8);
        told(x, "law 0 0;write 5;go 0", 3);
    }

    /** Detail: go without NEXT is a FAULT at its word, behind L. */
    private static void goWithoutNext() {
        TurnedAbout x = made();
        x.write(MOST);
        fault(x, "go 1", 0);
        fault(x, "base 10;go 1", 8);
        fault(x, "go 2", 3);
        fault(x, "go x", 3);
        fault(x, "go", 2);
        fault(x, "go 1x", 0);
        told(x, "go 0", 1);
    }

    /** value of a LAW that isn't TOLD: L. */
    private static void valueOfAnotherKind() {
        fault("value 1 0 0", 6);
        fault("value 1 10 0", 6);
        fault("value 1", 6);
        fault("value 1x", 6);
        int[] kinds = {0, 1, 2, 3, 4, 6};
        for (int kind : kinds) {
            fault("law " + kind + " 0;value 2 0 0", 14);
        }
    }

    /** The FAULT: the number of elements, if it ends too early. */
    private static void endsTooEarly() {
        String[] texts = {"base 3", "law 1 2", "value 0 1 2", "write 7", "go 1"};
        for (String text : texts) {
            for (int length = 0; length < text.length(); length++) {
                fault(text.substring(0, length), length);
                fault("base 3;" + text.substring(0, length), 7 + length);
            }
        }
        TurnedAbout x = made();
        x.row(0, 0, 160);
        String text = "base 3;".repeat(22) + "base 3";
        for (int i = 0; i < 160; i++) {
            x.set(0, i, text.charAt(i));
        }
        Due.is("13: 160 elements", x.text(0), 23);
        x.set(0, 159, ' ');
        Due.is("13: a blank at the end", x.text(0), -6);
        Due.is("14: a blank at the end", x.fault(), 159);
        // an element 0 is no end
        Due.letters(x, 0, "base 3" + (char) 0);
        Due.is("13: 0 behind", x.text(0), -6);
        Due.is("14: 0 behind", x.fault(), 6);
    }

    /** The FAULT: the first place at which an element can't stand. */
    private static void firstOfSeveral() {
        String[] texts = {"base ;x", "base 1;x", "law ;x", "law 0 ;x", "law 0;x", "law 7;x", "value ;x", "value 0;x",
            "value 0 0;x", "value 0 ;x", "value 2 0 0;x", "value 1 0 0;x", "write ;x", "go ;x", "go 2;x", "go;x",
            "bas;x", "la;x", "valu;x", "writ;x", "g;x"};
        int[] places = {5, 5, 4, 6, 5, 4, 6, 7, 9, 8, 6, 6, 6, 3, 3, 2, 3, 2, 4, 4, 1};
        for (int i = 0; i < texts.length; i++) {
            fault(texts[i], places[i]);
            fault(texts[i] + ";base 1", places[i]);
            fault(texts[i].replace("x", "base 3"), places[i]);
        }
        fault("law 7 10", 4);
        fault("value 2 10 1000", 6);
        fault("value 0 10 1000", 8);
    }

    /** Detail: Letters in a ROW of longs count by their lowest 32 bits. */
    private static void lettersInRows() {
        TurnedAbout x = made();
        Due.letters(x, 0, 3, "base 3");
        x.set(0, 0, (1L << 32) + 'b');
        x.set(0, 5, (-1L << 32) + '4');
        Due.is("13: bits above 32", x.text(0), 1);
        Due.is("13: BASE 4", x.status(2), 4);
        x.set(0, 0, (1L << 31) + 'b');
        Due.is("13: bit 31 counts", x.text(0), -6);
        Due.is("14: bit 31 counts", x.fault(), 0);
        for (int sort = 0; sort < 4; sort++) {
            Due.letters(x, sort, sort, "base 5");
            x.set(sort, 0, 'b' + 256);
            Due.is("13: bit 8 in sort " + sort, x.text(sort), sort == 0 ? 1 : -6);
            x.set(sort, 0, 'b' + 65536);
            Due.is("13: bit 16 in sort " + sort, x.text(sort), sort <= 1 ? 1 : -6);
        }
    }

    /** 13: -1; -2; -3; -6 a FAULT. */
    private static void refused() {
        TurnedAbout x = made();
        x.show(1, 0);
        x.row(2, 0, 0);
        Due.is("13: shelf 8", x.text(8), -1);
        Due.is("13: shelf -1", x.text(-1), -1);
        Due.is("13: a LAW", x.text(1), -2);
        Due.is("13: NOTHING", x.text(0), -3);
        Due.is("13: no elements", x.text(2), -6);
        Due.is("14: no elements", x.fault(), 0);
        Due.refusals("13", x, 2, 1, 1, 0, 0, 1);
    }

    /** 14: The FAULT of the latest text() that came to a ROW; NONE: there was none, or none yet. */
    private static void latestFault() {
        TurnedAbout x = made();
        Due.is("14: none yet", x.fault(), NONE);
        x.text(0);
        Due.is("14: it came to no ROW", x.fault(), NONE);
        fault(x, "base 1", 5);
        x.text(8);
        x.show(0, 0);
        x.text(0);
        x.text(1);
        Due.is("14: nor did these", x.fault(), 5);
        x.image();
        x.restore();
        Due.is("14: not of THE IMAGE", x.fault(), 5);
        fault(x, "base x", 5);
        fault(x, "x", 0);
        told(x, "base 3", 1);
        Due.is("14: there was none", x.fault(), NONE);
    }
}
