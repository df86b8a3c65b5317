/** Counts and prints the answers that are not the ones due. */
final class Due {
    private static int told = 0;
    private static int wrong = 0;

    private Due() {
    }

    static void is(String call, long got, long want) {
        told++;
        if (got != want) {
            wrong++;
            System.out.println(call + " answered " + got + ", due is " + want);
        }
    }

    static void holds(String what, boolean stands) {
        told++;
        if (!stands) {
            wrong++;
            System.out.println("does not hold: " + what);
        }
    }

    /** How many calls were refused by -1, -2, .. -7. */
    static void refusals(String promise, TurnedAbout x, int... wants) {
        for (int i = 0; i < 7; i++) {
            is(promise + ": refused -" + (i + 1), x.status(11 + i), i < wants.length ? wants[i] : 0);
        }
    }

    static void end() {
        System.out.println(wrong == 0 ? told + " answers are as due" : wrong + " of " + told + " answers are not as due");
        if (wrong != 0) {
            System.exit(1);
        }
    }

    /** Puts a text into a new row of bytes. */
    static void letters(TurnedAbout x, int s, String text) {
        letters(x, s, 0, text);
    }

    static void letters(TurnedAbout x, int s, int sort, String text) {
        Due.is("row for " + text, x.row(s, sort, text.length()), 1);
        for (int i = 0; i < text.length(); i++) {
            x.set(s, i, text.charAt(i));
        }
    }

    /** Puts numbers into a new row. */
    static void numbers(TurnedAbout x, int s, int sort, long... numbers) {
        Due.is("row of numbers", x.row(s, sort, numbers.length), 1);
        for (int i = 0; i < numbers.length; i++) {
            x.set(s, i, numbers[i]);
        }
    }
}
