/** Counts answers that are not as due, and what the tests share to feed a text. */
final class Check {
    private int asked;
    private int wrong;
    private String where = "";

    void at(String place) {
        where = place;
    }

    void due(String call, long got, long want) {
        asked++;
        if (got != want) {
            wrong++;
            if (wrong <= 40) {
                System.out.println(where + ": " + call + " answered " + got + ", due is " + want);
            }
        }
    }

    void holds(String what, boolean yes) {
        asked++;
        if (!yes) {
            wrong++;
            if (wrong <= 40) {
                System.out.println(where + ": does not hold: " + what);
            }
        }
    }

    boolean failed() {
        return wrong > 0;
    }

    int asked() {
        return asked;
    }

    /** A new object refuses the text by a fault at a place. */
    void refused(String text, int fault, int place) {
        TakeOrPay x = new TakeOrPay();
        feed(x, text);
        due("page of '" + text + "'", x.page(), -10 - place);
        due("fault of '" + text + "'", x.fault(), fault);
    }

    /** A new object takes the text: so many lines, and what it tells then. */
    void taken(String text, int lines, int what, int told) {
        TakeOrPay x = new TakeOrPay();
        feed(x, text);
        due("page of '" + text + "'", x.page(), lines);
        due("fault of '" + text + "'", x.fault(), 0);
        due("told of '" + text + "'", x.told(what), told);
    }

    void finish() {
        System.out.println(asked + " answers asked, " + wrong + " not as due");
        if (wrong > 0 || asked == 0) {
            System.exit(1);
        }
    }

    /** Feeds a text, blanks behind it cut off again; answers nothing. */
    static void feed(TakeOrPay x, String text) {
        for (int i = 0; i < text.length(); i += 8) {
            x.feed(eight(text, i));
        }
        x.end(text.length());
    }

    static long eight(String text, int from) {
        long v = 0;
        for (int j = from; j < from + 8; j++) {
            v = v << 8 | (j < text.length() ? text.charAt(j) & 0xff : ' ');
        }
        return v;
    }

    /** A new object whose page was told by a text that must be taken. */
    static TakeOrPay told(String text) {
        TakeOrPay x = new TakeOrPay();
        feed(x, text);
        int lines = x.page();
        if (lines < 0 || x.fault() != 0) {
            throw new IllegalStateException("the test's own text is refused: " + text + " " + lines);
        }
        return x;
    }
}
