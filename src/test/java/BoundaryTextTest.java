/** Boundary cases of THE TAPE's text: tokens, lines and faults. */
public final class BoundaryTextTest extends Boundary {
    private static final String[] ONE_NUMBER = {"years", "days", "quantity", "paid", "base", "index", "surcharge", "rest",
        "cost", "start"};

    public static void main(String[] args) throws IllegalAccessException {
        runAll(BoundaryTextTest.class);
    }

    @Sentence(words = "THE TAPE has 320 bytes, places from 0.")
    static void places() {
        taken(blanks(320), 0, 6, 20);
        taken(blanks(312) + "base 59;", 1, 6, 59);
        taken("base 59;" + blanks(312), 1, 6, 59);
        refused("$", 1, 0);
        refused(blanks(7) + "$", 1, 7);
        refused(blanks(319) + "$", 1, 319);
        refused(blanks(316) + "base", 2, 320);
    }

    @Sentence(words = "TOKENS, each as long as may be")
    static void asLongAsMayBe() {
        refused("day 12;", 3, 4);
        refused("day 01;", 2, 6);
        refused("base 1000;", 1, 5);
        refused("madefirst;", 1, 0);
        refused("days1 2;", 2, 6);
        refused("daybase 5;", 1, 0);
        refused("chance 0 112;", 3, 9);
        taken("days 3;", 1, 1, 3);
        taken("day 3 3;", 1, 3, 3);
    }

    @Sentence(words = "any number of blanks (32) ahead of, between, behind them "
        + "(one at least between two NAMES, between two NUMBERS; else none is needed)")
    static void blanksBetween() {
        taken("base5;index7;day1 2;made last;free buyer;price0 9;carried;", 7, 3, 1);
        taken("     base     5     ;     ", 1, 6, 5);
        taken("chance 0 0 0 4;chance1 0 0 4;chance" + blanks(40) + "2" + blanks(40) + "0 0 4;", 3, 38, 4);
        taken(blanks(100) + "base" + blanks(100) + "7" + blanks(100) + ";", 1, 6, 7);
        taken("made first;", 1, 9, 1);
        refused("madefirst;", 1, 0);
        refused("freeseller;", 1, 0);
        refused("day12;", 3, 3);
        refused("price09;", 3, 5);
        refused("start 1notice;", 2, 7);
        int[] notBlanks = {0, 9, 10, 13, 31, 33, 160};
        for (int sign : notBlanks) {
            refused("base" + (char) sign + "5;", 1, 4);
        }
    }

    @Sentence(words = "NAMES (a .. z), NUMBERS (1 to 3 figures), the sign ; (every other byte is no TOKEN).")
    static void everyByte() {
        for (int sign = 0; sign < 256; sign++) {
            String text = "base 5;" + (char) sign;
            if (sign == ' ') {
                taken(text, 1, 6, 5);
            } else if (sign == ';' || sign >= '0' && sign <= '9') {
                refused(text, 2, 7);
            } else {
                refused(text, 1, 7);
            }
        }
        String[] names = {"abase", "zbase", "basea", "basez", "a", "z", "aaaaaaaaaaaa", "zzzzzzzzzzzz"};
        for (String name : names) {
            refused(name + " 5;", 1, 0);
        }
        taken("base 5;", 1, 6, 5);
        taken("base 05;", 1, 6, 5);
        taken("base 005;", 1, 6, 5);
        refused("base 0005;", 1, 5);
        refused("base 999;", 3, 5);
        refused("base 9999;", 1, 5);
        refused("base 4294967301;", 1, 5);
        taken("paid 000;", 1, 5, 0);
        refused("paid 0000;", 1, 5);
    }

    @Sentence(words = "page: { line }")
    static void noneToAllLines() {
        taken("", 0, 0, 2);
        taken(" ", 0, 0, 2);
        taken("years 1;", 1, 0, 1);
        taken("years 4;days 5;quantity 16;day 0 4;paid 100;base 60;index 100;surcharge 20;made first;rest 60;carried;"
            + "notice;free nobody;free seller;free buyer;cost 60;price 0 60;price 1 60;price 2 60;chance 0 0 0 4;"
            + "chance 1 0 4 0;chance 2 4 0 0;start 2;", 23, 15, 2);
        taken("start 2;chance 2 4 0 0;price 2 60;free buyer;day 0 4;years 4;", 6, 15, 2);
        refused(";", 2, 0);
        refused("years 1;;", 2, 8);
    }

    @Sentence(words = "line: years N ; | days N ; | quantity N ; | day N N ; | paid N ; | base N ; | index N ; | surcharge N ; "
        + "| made HOW ; | rest N ; | carried ; | notice ; | free WHO ; | cost N ; | price N N ; | chance N N N N ; | start N ;")
    static void tooFewAndTooMany() {
        for (String name : ONE_NUMBER) {
            int n = name.length();
            refused(name + ";", 2, n);
            refused(name, 2, n);
            refused(name + " 1 1;", 2, n + 3);
            refused(name + " 1", 2, n + 2);
            refused(name + " first;", 2, n + 1);
            refused(name + " " + name + " 1;", 2, n + 1);
        }
        refused("day;", 2, 3);
        refused("day 1;", 2, 5);
        refused("day 1", 2, 5);
        refused("day 1 2", 2, 7);
        refused("day 1 2 3;", 2, 8);
        refused("price;", 2, 5);
        refused("price 1;", 2, 7);
        refused("price 1 2", 2, 9);
        refused("price 1 2 3;", 2, 10);
        refused("chance;", 2, 6);
        refused("chance 1;", 2, 8);
        refused("chance 1 1;", 2, 10);
        refused("chance 1 1 1;", 2, 12);
        refused("chance 1 1 1 2", 2, 14);
        refused("chance 1 1 1 2 1;", 2, 15);
        refused("carried", 2, 7);
        refused("carried 1;", 2, 8);
        refused("carried carried;", 2, 8);
        refused("notice", 2, 6);
        refused("notice first;", 2, 7);
    }

    @Sentence(words = "HOW: first | last.")
    static void how() {
        taken("made first;", 1, 9, 1);
        taken("made last;", 1, 9, 2);
        String[] others = {"nobody", "seller", "buyer", "made", "rest", "start", "years", "0", "1", "2", ";"};
        for (String other : others) {
            refused("made " + other + ";", 2, 5);
        }
        refused("made", 2, 4);
        refused("made firs;", 1, 5);
        refused("made firsts;", 1, 5);
        refused("made first last;", 2, 11);
        refused("first;", 2, 0);
        refused("last;", 2, 0);
    }

    @Sentence(words = "WHO: nobody | seller | buyer.")
    static void who() {
        taken("free nobody;", 1, 13, 1);
        taken("free seller;", 1, 13, 2);
        taken("free buyer;", 1, 13, 4);
        String[] others = {"first", "last", "free", "start", "years", "0", "1", "2", ";"};
        for (String other : others) {
            refused("free " + other + ";", 2, 5);
        }
        refused("free", 2, 4);
        refused("free sellers;", 1, 5);
        refused("free nobody seller;", 2, 12);
        refused("nobody;", 2, 0);
        refused("seller;", 2, 0);
        refused("buyer;", 2, 0);
    }

    @Sentence(words = "price: a STATE, its PRICE.")
    static void priceOfAState() {
        taken("price 0 1;", 1, 20, 1);
        taken("price 1 60;", 1, 21, 60);
        taken("price 2 1;", 1, 22, 1);
        refused("price 3 1;", 3, 6);
        refused("price 2 0;", 3, 8);
        refused("price 2 61;", 3, 8);
        refused("price 60 2;", 3, 6);
    }

    @Sentence(words = "chance: a STATE, CHANCES of 0, 1, 2.")
    static void chancesOfAState() {
        for (int s = 0; s < 3; s++) {
            taken("chance " + s + " 4 0 0;", 1, 30 + 3 * s, 4);
            taken("chance " + s + " 0 4 0;", 1, 31 + 3 * s, 4);
            taken("chance " + s + " 0 0 4;", 1, 32 + 3 * s, 4);
            taken("chance " + s + " 0 1 3;", 1, 31 + 3 * s, 1);
        }
        refused("chance 3 4 0 0;", 3, 7);
        refused("chance 4 0 0 4;", 3, 7);
    }

    @Sentence(words = "FAULTS, the first met as it is read (a TOKEN is read when the one before has been taken)")
    static void theFirstMet() {
        refused("base 0 $", 3, 5);
        refused("base 61 wrong", 3, 5);
        refused("base base $", 2, 5);
        refused("carried;carried $", 4, 8);
        refused("base 5;base 99;", 4, 7);
        refused("price 1 5;price 1 99;", 4, 16);
        refused("chance 1 4 0 0;chance 1 9 9 9;", 4, 22);
        refused("free buyer;free buyer $", 4, 16);
        refused("day 4 3 $", 3, 6);
        refused("chance 0 5 $", 3, 9);
        refused("chance 0 1 1 1 $", 3, 13);
        refused("$ base 0;", 1, 0);
        refused("base $ 0;", 1, 5);
        refused("base 0;$", 3, 5);
        refused("base 1000;base 0;", 1, 5);
        refused("base 5;base 5;base 0;", 4, 7);
    }

    @Sentence(words = "1 no TOKEN, a NAME that is none of these, a NUMBER that is too long (its first byte).")
    static void noToken() {
        refused("base 5;  $$", 1, 9);
        refused("base 5$;", 1, 6);
        refused("base -5;", 1, 5);
        refused("Years 1;", 1, 0);
        refused("yearS 1;", 1, 0);
        refused("year 1;", 1, 0);
        refused("yearss 1;", 1, 0);
        refused("  wrong 1;", 1, 2);
        refused("base wrong;", 1, 5);
        refused("a;", 1, 0);
        refused("z;", 1, 0);
        refused("base  1000;", 1, 6);
        refused("1000;", 1, 0);
        refused("base 5;  0000", 1, 9);
        refused("made 1000;", 1, 5);
        refused("carried 1000;", 1, 8);
        refused("a".repeat(320), 1, 0);
        refused("7".repeat(320), 1, 0);
    }

    @Sentence(words = "2 a TOKEN that can not stand there (or the end: the length).")
    static void canNotStandThere() {
        refused("5;", 2, 0);
        refused("   ;", 2, 3);
        refused("base ;", 2, 5);
        refused("base 5 5;", 2, 7);
        refused("base 5 carried;", 2, 7);
        refused("base", 2, 4);
        refused("base   ", 2, 7);
        refused("base 5", 2, 6);
        refused("base 5 ", 2, 7);
        refused("carried;base 5", 2, 14);
        refused("carried;notice" + blanks(306), 2, 320);
        taken("carried;notice;" + blanks(305), 2, 12, 1);
        TakeOrPay x = new TakeOrPay();
        x.feed(Check.eight("base 12;", 0));
        x.end(7);
        due("the end is where end() put it", x.page(), -17);
        due("FAULT", x.fault(), 2);
    }

    @Sentence(words = "3 a NUMBER out of its bounds (day: the second below the first; chance: the third, if they are not 4 in sum).")
    static void outOfItsBounds() {
        int[] high = {4, 5, 16, 100, 60, 100, 20, 60, 60, 2};
        int[] low = {1, 1, 1, 0, 1, 0, 0, 0, 0, 0};
        for (int i = 0; i < ONE_NUMBER.length; i++) {
            int place = ONE_NUMBER[i].length() + 1;
            refused(ONE_NUMBER[i] + " " + (high[i] + 1) + ";", 3, place);
            refused(ONE_NUMBER[i] + " 999;", 3, place);
            if (low[i] == 1) {
                refused(ONE_NUMBER[i] + " 0;", 3, place);
            }
        }
        refused("day 5 5;", 3, 4);
        refused("day 0 5;", 3, 6);
        refused("day 1 0;", 3, 6);
        refused("day 3 2;", 3, 6);
        taken("day 3 3;", 1, 4, 3);
        refused("chance 0 4 4 4;", 3, 13);
        refused("chance 0 0 0 0;", 3, 13);
        refused("chance 0 1 1 1;", 3, 13);
        refused("chance 0 2 2 1;", 3, 13);
        refused("chance 0 4 0 1;", 3, 13);
        refused("chance 0 4 1 0;", 3, 13);
        refused("chance 0 0 0 5;", 3, 13);
        refused("chance 0 0 5 0;", 3, 11);
        refused("chance 0 5 0 0;", 3, 9);
    }

    @Sentence(words = "4 what is told already (its NAME; price, chance: the STATE; free: WHO).")
    static void toldAlready() {
        for (String name : ONE_NUMBER) {
            String line = name + " 1;";
            refused(line + line, 4, line.length());
            refused(line + "carried;" + line, 4, line.length() + 8);
        }
        refused("day 1 1;day 1 1;", 4, 8);
        refused("made last;made last;", 4, 10);
        refused("made last;made first;", 4, 10);
        refused("carried;carried;", 4, 8);
        refused("notice;notice;", 4, 7);
        refused("price 0 1;price 0 1;", 4, 16);
        refused("price 2 1;price 0 1;price 2 9;", 4, 26);
        taken("price 0 1;price 1 1;price 2 9;", 3, 22, 9);
        refused("chance 0 4 0 0;chance 0 4 0 0;", 4, 22);
        taken("chance 0 4 0 0;chance 1 4 0 0;chance 2 4 0 0;", 3, 36, 4);
        refused("free buyer;free buyer;", 4, 16);
        refused("free nobody;free buyer;free nobody;", 4, 28);
        taken("free nobody;free buyer;free seller;", 3, 13, 7);
        taken("price 1 1;chance 1 4 0 0;", 2, 21, 1);
        TakeOrPay x = told("base 5;carried;price 0 1;free buyer;");
        Check.feed(x, "base 6;carried;price 0 2;free buyer;");
        due("what another text told is not told already", x.page(), 4);
        Check.feed(x, "base 7;base 8;");
        x.page();
        Check.feed(x, "base 9;");
        due("nor what a refused one told", x.page(), 1);
        due("BASE", x.told(6), 9);
    }
}
