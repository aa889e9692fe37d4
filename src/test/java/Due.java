/** Compares answers with those that are due, and ends the test with exit code 1 if one was not. */
final class Due {
    private int wrong = 0;
    private int asked = 0;
    private String sentence = "";

    /** What the document says, of which the answers from here on are a test. */
    void says(String words) {
        sentence = words.isEmpty() ? "" : "[" + words + "] ";
    }

    void is(String call, long got, long want) {
        is(call, String.valueOf(got), String.valueOf(want));
    }

    void is(String call, boolean got, boolean want) {
        is(call, String.valueOf(got), String.valueOf(want));
    }

    void is(String call, String got, String want) {
        asked++;
        if (!got.equals(want)) {
            wrong++;
            if (wrong <= 50) {
                System.out.println(sentence + call + " answered " + got + ", due is " + want);
            }
        }
    }

    /** Banks or cars: all that can be asked of number k, from what 0 on. */
    void banksAre(GasYard yard, int k, int... wants) {
        for (int what = 0; what < wants.length; what++) {
            is("banks(" + k + ", " + what + ")", yard.banks(k, what), wants[what]);
        }
    }

    void carsAre(GasYard yard, int k, int... wants) {
        for (int what = 0; what < wants.length; what++) {
            is("cars(" + k + ", " + what + ")", yard.cars(k, what), wants[what]);
        }
    }

    boolean anyWrong() {
        return wrong != 0;
    }

    void end() {
        System.out.println(wrong == 0 ? asked + " answers as due" : wrong + " of " + asked + " answers not as due");
        if (wrong != 0) {
            System.exit(1);
        }
    }

    /** A new yard under a book, which must be a good one. */
    static GasYard under(String book) {
        GasYard yard = new GasYard();
        if (book(yard, book) < 0) {
            throw new IllegalArgumentException("not a book: " + book);
        }
        return yard;
    }

    /** Puts a text on an empty tape: whole feeds, then the end. */
    static void feed(GasYard yard, String text) {
        for (int from = 0; from < text.length(); from += 20) {
            yard.feed(number(text, from), number(text, from + 4), number(text, from + 8),
                    number(text, from + 12), number(text, from + 16));
        }
        yard.end(text.length());
    }

    static int book(GasYard yard, String text) {
        feed(yard, text);
        return yard.book();
    }

    private static int number(String text, int from) {
        int value = 0;
        for (int at = from; at < from + 4; at++) {
            value = value << 8 | (at < text.length() ? text.charAt(at) & 255 : 0);
        }
        return value;
    }
}
