/** Counts the answers that are not as due, and makes the rows that the tests begin with. */
final class Due {
    static final long LOST = Long.MIN_VALUE;

    private int wrong;

    void is(String call, long got, long want) {
        if (got != want) {
            wrong++;
            System.out.println(call + " answered " + got + ", due is " + want);
        }
    }

    void holds(String what, boolean so) {
        if (!so) {
            wrong++;
            System.out.println("does not hold: " + what);
        }
    }

    void end() {
        System.out.println(wrong == 0 ? "all answers are as due" : wrong + " answers are not as due");
        if (wrong != 0) {
            System.exit(1);
        }
    }

    /** Puts numbers on a SHEET as a new row of ints. */
    static void numbers(ThrowRows x, int sheet, int... numbers) {
        x.sheet(sheet, 2, numbers.length);
        for (int i = 0; i < numbers.length; i++) {
            x.put(sheet, i, numbers[i]);
        }
    }

    /** What pattern answers to a text, told on SHEET 0 as bytes. */
    static int text(ThrowRows x, String text) {
        x.sheet(0, 0, text.length());
        for (int i = 0; i < text.length(); i++) {
            x.put(0, i, text.charAt(i));
        }
        return x.pattern(0, 0, 0, text.length());
    }

    static ThrowRows with(String text) {
        ThrowRows x = new ThrowRows();
        text(x, text);
        return x;
    }

    /** The PATTERN's THROWS as a text. */
    static String told(ThrowRows x) {
        StringBuilder told = new StringBuilder();
        for (int beat = 0; beat < x.many(0); beat++) {
            told.append(x.throwOf(beat));
        }
        return told.toString();
    }
}
