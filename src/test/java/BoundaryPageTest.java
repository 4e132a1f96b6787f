/** Boundary cases of what a page holds, of shut days, and of promises 1 to 9 (their texts: BoundaryTextTest). */
public final class BoundaryPageTest extends Boundary {
    public static void main(String[] args) throws IllegalAccessException {
        runAll(BoundaryPageTest.class);
    }

    /** A line of one number: its least and most are taken, what is next to them is not; and as at first. */
    private static void number(String line, int low, int high, int what, int first) {
        taken(line + " " + low + ";", 1, what, low);
        taken(line + " " + high + ";", 1, what, high);
        refused(line + " " + (high + 1) + ";", 3, line.length() + 1);
        if (low > 0) {
            refused(line + " " + (low - 1) + ";", 3, line.length() + 1);
        }
        due(line + " at first", new TakeOrPay().told(what), first);
        taken("", 0, what, first);
    }

    @Sentence(words = "YEARS (1 to 4; 2 at first)")
    static void years() {
        number("years", 1, 4, 0, 2);
        due("one YEAR", told("years 1;").year(0, 0), 8);
        due("one YEAR alone", told("years 1;").year(1, 0), BAD);
        due("YEAR 3 of four", told("years 4;").year(3, 0), 8);
        due("YEAR 4 of four", told("years 4;").year(4, 0), BAD);
    }

    @Sentence(words = "of DAYS (1 to 5; 4) each")
    static void daysOfAYear() {
        number("days", 1, 5, 1, 4);
        due("one DAY a YEAR", told("years 1;days 1;").count(0), 1);
        due("the fewest", told("years 1;days 1;").shut(1, NOBODY), BAD);
        due("the most", told("years 4;days 5;").count(0), 20);
        due("DAY 19 of twenty", told("years 4;days 5;").shut(19, NOBODY), NONE);
        due("DAY 20 of twenty", told("years 4;days 5;").shut(20, NOBODY), BAD);
    }

    @Sentence(words = "all DAYS are numbered on (0 first)")
    static void daysAreNumberedOn() {
        TakeOrPay x = told("years 2;days 3;free nobody;");
        due("DAY -1", x.shut(-1, NOBODY), BAD);
        due("DAY 2 is the last of YEAR 0", x.shut(2, NOBODY), NONE);
        due("FREE ones of YEAR 0", x.year(0, 2), 1);
        due("FREE ones of YEAR 1", x.year(1, 2), 0);
        due("DAY 3 is the first of YEAR 1", x.shut(3, NOBODY), NONE);
        due("FREE ones of YEAR 0", x.year(0, 2), 1);
        due("FREE ones of YEAR 1", x.year(1, 2), 1);
        due("DAY 5 is the last", x.shut(5, NOBODY), NONE);
        due("DAY 6", x.shut(6, NOBODY), BAD);
    }

    @Sentence(words = "QUANTITY a year (1 to 16; 8)")
    static void quantity() {
        number("quantity", 1, 16, 2, 8);
    }

    @Sentence(words = "LEAST, MOST a day (0 to 4, MOST no less; 0 and 3)")
    static void leastAndMost() {
        taken("day 0 0;", 1, 4, 0);
        taken("day 0 4;", 1, 4, 4);
        taken("day 4 4;", 1, 3, 4);
        taken("day 4 4;", 1, 4, 4);
        taken("day 2 2;", 1, 3, 2);
        refused("day 5 5;", 3, 4);
        refused("day 0 5;", 3, 6);
        refused("day 1 0;", 3, 6);
        refused("day 4 3;", 3, 6);
        taken("", 0, 3, 0);
        taken("", 0, 4, 3);
    }

    @Sentence(words = "PAID: of 100 of QUANTITY so much (0 to 100; 80)")
    static void paid() {
        number("paid", 0, 100, 5, 80);
        due("none", told("paid 0;").year(0, 1), 0);
        due("all", told("paid 100;").year(0, 1), 8);
        due("80 of 8", new TakeOrPay().year(0, 1), 6);
    }

    @Sentence(words = "TOP: QUANTITY times PAID by 100, divided down, 12 at most.")
    static void top() {
        due("1 of 1", told("quantity 1;paid 100;").year(0, 1), 1);
        due("0.99", told("quantity 1;paid 99;").year(0, 1), 0);
        due("11.96", told("quantity 13;paid 92;").year(0, 1), 11);
        due("12", told("quantity 12;paid 100;").year(0, 1), 12);
        due("12 of 16", told("quantity 16;paid 75;").year(0, 1), 12);
        due("12.87", told("quantity 13;paid 99;").year(0, 1), 12);
        due("13", told("quantity 13;paid 100;").year(0, 1), 12);
        due("16", told("quantity 16;paid 100;").year(0, 1), 12);
    }

    @Sentence(words = "BASE, a price (COINS 1 to 60; 20)")
    static void base() {
        number("base", 1, 60, 6, 20);
    }

    @Sentence(words = "INDEX: of 100 so much of it follows the price next door (0 to 100; 0)")
    static void index() {
        number("index", 0, 100, 7, 0);
        due("none of it: BASE", told("index 0;").takes(0, 0, 0, 0, 2, 1, 2), 2000);
        due("one of 100", told("index 1;").takes(0, 0, 0, 0, 2, 1, 2), 2010);
        due("99 of 100", told("index 99;").takes(0, 0, 0, 0, 2, 1, 2), 2990);
        due("all of it: PRICE", told("index 100;").takes(0, 0, 0, 0, 2, 1, 2), 3000);
    }

    @Sentence(words = "SURCHARGE for what is above QUANTITY (COINS 0 to 20; 0)")
    static void surcharge() {
        number("surcharge", 0, 20, 8, 0);
        due("none", told("surcharge 0;").takes(0, 8, 0, 0, 0, 1, 2), 2000);
        due("the most", told("surcharge 20;").takes(0, 8, 0, 0, 0, 1, 2), 4000);
        due("not at QUANTITY", told("surcharge 20;").takes(0, 7, 0, 0, 0, 1, 2), 2000);
    }

    @Sentence(words = "MADE UP: no (at first), first or last")
    static void madeUp() {
        due("at first", new TakeOrPay().told(9), 0);
        taken("", 0, 9, 0);
        taken("made first;", 1, 9, 1);
        taken("made last;", 1, 9, 2);
        refused("made no;", 1, 5);
        refused("made;", 2, 4);
    }

    @Sentence(words = "REST: COINS that one made up costs still (0 to 60; 0)")
    static void rest() {
        number("rest", 0, 60, 10, 0);
        due("nothing", told("made first;").takes(0, 0, 1, 0, 0, 1, 2), 0);
        due("the most", told("made first;rest 60;").takes(0, 0, 1, 0, 0, 1, 2), 6000);
    }

    @Sentence(words = "CARRIED, or not (at first).")
    static void carried() {
        due("at first", new TakeOrPay().told(11), 0);
        taken("", 0, 11, 0);
        taken("carried;", 1, 11, 1);
        due("not", new TakeOrPay().ends(0, 9, 0, 3), 0);
        due("CARRIED", told("carried;").ends(0, 9, 0, 3), 1);
    }

    @Sentence(words = "NOTICE 0 or 1 (0).")
    static void notice() {
        due("at first", new TakeOrPay().told(12), 0);
        taken("", 0, 12, 0);
        taken("notice;", 1, 12, 1);
        refused("notice 0;", 2, 7);
        refused("notice 1;", 2, 7);
    }

    @Sentence(words = "SHUT days of nobody, the seller, the buyer FREE, or not (at first).")
    static void free() {
        due("at first", new TakeOrPay().told(13), 0);
        taken("", 0, 13, 0);
        taken("free nobody;", 1, 13, 1);
        taken("free seller;", 1, 13, 2);
        taken("free buyer;", 1, 13, 4);
        taken("free buyer;free seller;free nobody;", 3, 13, 7);
        for (int who = 0; who < 3; who++) {
            TakeOrPay x = new TakeOrPay();
            x.shut(0, who);
            due("none is FREE at first, by " + who, x.year(0, 2), 0);
        }
    }

    @Sentence(words = "COST: COINS that one costs the seller (0 to 60; 10).")
    static void cost() {
        number("cost", 0, 60, 14, 10);
        due("nothing: 4 at 20", told("years 1;days 1;paid 0;day 4 4;cost 0;").whole(1, 0), 8000);
        due("the most", told("years 1;days 1;paid 0;day 4 4;cost 60;").whole(1, 0), 8000 - 24000);
    }

    @Sentence(words = "NEXT DOOR there are STATES of prices 0 to 2, each with a PRICE (COINS 1 to 60; 15, 20, 30 at first)")
    static void prices() {
        int[] first = {15, 20, 30};
        for (int s = 0; s < 3; s++) {
            number("price " + s, 1, 60, 20 + s, first[s]);
        }
        refused("price 3 1;", 3, 6);
        refused("price 999 1;", 3, 6);
        due("STATE 3", new TakeOrPay().told(23), BAD);
    }

    @Sentence(words = "and CHANCES of 4 to be in each STATE the day behind (three numbers, 0 to 4 each, that are 4 in sum; 2 1 1, 1 2 1, 1 1 2 at first).")
    static void chances() {
        int[] first = {2, 1, 1, 1, 2, 1, 1, 1, 2};
        for (int i = 0; i < 9; i++) {
            due("at first " + i, new TakeOrPay().told(30 + i), first[i]);
        }
        int sums = 0;
        for (int a = 0; a <= 5; a++) {
            for (int b = 0; b <= 5; b++) {
                for (int c = 0; c <= 5; c++) {
                    sums += chancesOf(a, b, c);
                }
            }
        }
        due("15 ways to be 4 in sum", sums, 15);
        due("STATE 2 to 2 is the last", new TakeOrPay().told(38), 2);
        due("none behind it", new TakeOrPay().told(39), BAD);
    }

    private static int chancesOf(int a, int b, int c) {
        String text = "chance 1 " + a + " " + b + " " + c + ";";
        if (a <= 4 && b <= 4 && c <= 4 && a + b + c == 4) {
            taken(text, 1, 33, a);
            taken(text, 1, 34, b);
            taken(text, 1, 35, c);
            return 1;
        }
        refused(text, 3, a > 4 ? 9 : b > 4 ? 11 : 13);
        return 0;
    }

    @Sentence(words = "On DAY 0 the STATE is START (0 to 2; 1), if NOTICE is 0; with NOTICE 1 it was START the day ahead.")
    static void start() {
        number("start", 0, 2, 15, 1);
        String one = "years 1;days 1;paid 0;day 0 1;base 1;price 0 11;price 1 21;price 2 41;";
        int[] now = {1000, 2000, 4000};
        // 2 1 1, 1 2 1, 1 1 2 of 1000, 2000, 4000: 8000, 9000, 11000 of 4.
        int[] ahead = {2000, 2250, 2750};
        for (int s = 0; s < 3; s++) {
            due("that DAY's", told(one + "start " + s + ";").whole(0, 0), now[s]);
            due("that of the day ahead", told(one + "notice;start " + s + ";").whole(0, 0), ahead[s]);
        }
    }

    @Sentence(words = "A text that is taken tells all, in place of what there was (what no line tells is as at first)")
    static void aTextTellsAll() {
        TakeOrPay x = told("years 3;days 5;quantity 15;day 1 4;paid 70;base 33;index 25;surcharge 7;made last;rest 9;"
            + "carried;notice;free nobody;free buyer;cost 21;price 0 1;price 1 59;price 2 60;chance 0 0 4 0;"
            + "chance 1 3 0 1;chance 2 4 0 0;start 2;");
        Check.feed(x, "base 34;");
        due("one line", x.page(), 1);
        TakeOrPay first = new TakeOrPay();
        for (int what = 0; what < 39; what++) {
            due("told " + what, x.told(what), what == 6 ? 34 : first.told(what));
        }
        due("DAYS", x.count(0), 8);
        due("an empty text tells that, too", x.page(), 0);
        due("BASE as at first", x.told(6), 20);
    }

    @Sentence(words = "no DAY is SHUT then, THE ROW is empty; SHEETS stay.")
    static void whatATextEmpties() {
        TakeOrPay x = told("years 4;days 5;");
        for (int day = 0; day < 20; day++) {
            x.shut(day, day % 3);
            x.day(0, 0);
        }
        x.sheet(0, 0, 48);
        x.sheet(3, 1, 2);
        x.lay(3, 0, 2);
        x.lay(3, 1, 9);
        Check.feed(x, "years 4;days 5;");
        x.page();
        due("SHUT ones", x.count(1), 0);
        for (int day = 0; day < 20; day++) {
            due("DAY " + day, x.shut(day, NONE), NONE);
        }
        due("THE ROW", x.count(2), 0);
        due("DAY 0 of it", x.rowOf(0, 0), BAD);
        due("SHEET 0", x.count(4), 48);
        due("SHEET 3", x.read(3, 1, 0, 1), 1);
        due("its CELLS", 10 * x.rowOf(0, 0) + x.rowOf(0, 1), 29);
        x.page();
        due("by an empty text, too", x.count(2), 0);
    }

    @Sentence(words = "SHUT: a DAY, by nobody (0), the seller (1), the buyer (2).")
    static void shutBy() {
        String[] lines = {"free nobody;", "free seller;", "free buyer;"};
        for (int line = 0; line < 3; line++) {
            for (int who = 0; who < 3; who++) {
                TakeOrPay x = told(lines[line]);
                x.shut(0, who);
                due(lines[line] + " by " + who, x.year(0, 2), who == line ? 1 : 0);
            }
        }
        due("by 3", new TakeOrPay().shut(0, 3), BAD);
        due("by -1", new TakeOrPay().shut(0, -1), BAD);
    }

    @Sentence(words = "FREE ones of a YEAR: of as many as WHO is FREE.")
    static void freeOnes() {
        TakeOrPay x = told("years 2;days 5;free seller;free buyer;");
        due("none is SHUT", x.year(0, 2), 0);
        x.shut(0, NOBODY);
        due("one is SHUT, not FREE", x.year(0, 2), 0);
        x.shut(1, SELLER);
        x.shut(2, BUYER);
        due("two kinds", x.year(0, 2), 2);
        x.shut(0, SELLER);
        x.shut(3, SELLER);
        x.shut(4, BUYER);
        due("all", x.year(0, 2), 5);
        due("none of the other YEAR", x.year(1, 2), 0);
        x.shut(4, NONE);
        due("one is open again", x.year(0, 2), 4);
    }

    @Sentence(words = "QUANTITY and TOP of a YEAR: QUANTITY less (QUANTITY times FREE ones by DAYS, divided down), "
        + "TOP less (TOP times FREE ones by DAYS, divided down).")
    static void quantityAndTop() {
        TakeOrPay x = told("years 2;days 4;quantity 15;paid 100;free nobody;");
        int[] quantities = {15, 12, 8, 4, 0};
        int[] tops = {12, 9, 6, 3, 0};
        for (int free = 0; free <= 4; free++) {
            due("QUANTITY, FREE ones " + free, x.year(1, 0), quantities[free]);
            due("TOP is of 12, FREE ones " + free, x.year(1, 1), tops[free]);
            due("the other YEAR's", x.year(0, 0) * 100 + x.year(0, 1), 1512);
            x.shut(4 + free, NOBODY);
        }
        TakeOrPay one = told("years 1;days 5;quantity 1;paid 100;free nobody;");
        for (int free = 0; free < 5; free++) {
            due("1 less less than 1", one.year(0, 0) * 10 + one.year(0, 1), 11);
            one.shut(free, NOBODY);
        }
        due("1 less 1", one.year(0, 0) * 10 + one.year(0, 1), 0);
    }

    @Sentence(promise = 1, words = "As told at first; no DAY is SHUT; THE ROW is empty; SHEETS have nothing.")
    static void aNewObject() {
        TakeOrPay x = new TakeOrPay();
        int[] first = {2, 4, 8, 0, 3, 80, 20, 0, 0, 0, 0, 0, 0, 0, 10, 1};
        for (int what = 0; what < 16; what++) {
            due("told " + what, x.told(what), first[what]);
        }
        due("SHUT ones", x.count(1), 0);
        for (int day = 0; day < 8; day++) {
            due("DAY " + day, x.shut(day, NONE), NONE);
        }
        due("THE ROW", x.count(2), 0);
        due("none to go back", x.back(), NONE);
        due("bytes", x.count(3), 0);
        due("fault", x.fault(), 0);
        due("torn", x.torn(), 0);
        due("CELLS of SHEET 0", x.count(4), NONE);
        for (int k = 0; k < 4; k++) {
            due("SHEET " + k, x.lay(k, 0, 0), -11);
        }
    }

    @Sentence(promise = 2, words = "Eight bytes come behind THE TAPE, the highest first: how many it has.")
    static void eightBytes() {
        TakeOrPay x = new TakeOrPay();
        due("of all bits", x.feed(-1L), 8);
        due("behind these", x.feed(Long.MIN_VALUE), 16);
        due("byte 255 is the first", x.page(), -10);
        due("the highest first", x.feed(0x6261736520393b20L), 8);
        due("base 9; ", x.page(), 1);
        due("BASE", x.told(6), 9);
        x.feed(0x626173652039003bL);
        due("the second lowest is the seventh", x.page(), -16);
        x.feed(0x6261736520393b00L);
        due("the lowest is the eighth", x.page(), -17);
    }

    @Sentence(promise = 2, words = "FULL: more than 320.")
    static void fullTape() {
        TakeOrPay x = new TakeOrPay();
        for (int bytes = 8; bytes <= 320; bytes += 8) {
            due("feed", x.feed(0x2020202020202020L), bytes);
        }
        due("328", x.feed(0), FULL);
        due("it has", x.count(3), 320);
        due("319", x.end(319), 320);
        due("327", x.feed(0), FULL);
        due("313", x.end(313), 319);
        due("321", x.feed(0), FULL);
        due("it has", x.count(3), 313);
        due("312", x.end(312), 313);
        due("320", x.feed(0x2020202020202020L), 320);
        due("none of what was refused is there", x.page(), 0);
        due("empty: there is room", x.feed(0), 8);
    }

    @Sentence(promise = 3, words = "THE TAPE keeps its first n bytes: how many it had.")
    static void keepsItsFirst() {
        TakeOrPay x = new TakeOrPay();
        due("none of none", x.end(0), 0);
        x.feed(Check.eight("base 12;", 0));
        due("all of eight", x.end(8), 8);
        due("all but one", x.end(7), 8);
        due("it had seven", x.end(6), 7);
        x.feed(Check.eight(";       ", 0));
        due("page", x.page(), 1);
        due("base 1;", x.told(6), 1);
        x.feed(Check.eight("base 12;", 0));
        due("none", x.end(0), 8);
        due("an empty text", x.page(), 0);
        due("BASE as at first", x.told(6), 20);
    }

    @Sentence(promise = 3, words = "BAD (n above that, too).")
    static void keepsNoMore() {
        TakeOrPay x = new TakeOrPay();
        due("1 of none", x.end(1), BAD);
        due("-1 of none", x.end(-1), BAD);
        x.feed(0);
        int[] wrong = {9, -1, LOW, HIGH};
        for (int n : wrong) {
            due(n + " of eight", x.end(n), BAD);
        }
        due("as it was", x.count(3), 8);
        due("8 of eight", x.end(8), 8);
    }

    @Sentence(promise = 4, words = "THE TAPE (empty then, by a FAULT, too) tells THE PAGE: how many lines")
    static void tapeIsEmptyThen() {
        TakeOrPay x = new TakeOrPay();
        due("no bytes: no lines", x.page(), 0);
        Check.feed(x, "base 5;");
        due("one line", x.page(), 1);
        due("empty", x.count(3), 0);
        due("nothing is told a second time", x.page(), 0);
        due("as at first", x.told(6), 20);
        Check.feed(x, "base 0;");
        due("a FAULT", x.page(), -15);
        due("empty by it, too", x.count(3), 0);
        due("room for all", x.feed(0), 8);
    }

    @Sentence(promise = 4, words = "-10 less the place of its FAULT: that which was told stays.")
    static void whatWasToldStays() {
        TakeOrPay x = told("base 31;years 1;days 5;start 2;chance 0 4 0 0;free buyer;");
        x.shut(4, BUYER);
        days(x, 2, 3);
        x.sheet(0, 2, 3);
        Check.feed(x, "base 32;years 4;days 1;start 0;chance 0 0 0 4;free seller;notice;price 0 0;");
        due("the last NUMBER but one byte", x.page(), -10 - 73);
        int[] same = {1, 5, 8, 0, 3, 80, 31, 0, 0, 0, 0, 0, 0, 4, 10, 2};
        for (int what = 0; what < 16; what++) {
            due("told " + what, x.told(what), same[what]);
        }
        due("CHANCE", x.told(30), 4);
        due("SHUT ones", x.count(1), 1);
        due("FREE ones", x.year(0, 2), 1);
        due("THE ROW", x.count(2), 1);
        due("SHEET 0", x.count(4), 3);
        Check.feed(x, "$");
        due("place 0", x.page(), -10);
        Check.feed(x, blanks(319) + "$");
        due("place 319", x.page(), -329);
        Check.feed(x, blanks(316) + "base");
        due("the end of 320", x.page(), -330);
    }

    @Sentence(promise = 5, words = "The FAULT of the latest page(); 0.")
    static void theLatestFault() {
        TakeOrPay x = new TakeOrPay();
        due("none at first", x.fault(), 0);
        String[] texts = {"$", "base", "base 0;", "carried;carried;", "base 5;", "$", ""};
        int[] faults = {1, 2, 3, 4, 0, 1, 0};
        for (int i = 0; i < texts.length; i++) {
            Check.feed(x, texts[i]);
            due("not read yet", x.fault(), i == 0 ? 0 : faults[i - 1]);
            x.page();
            due("'" + texts[i] + "'", x.fault(), faults[i]);
            due("asked again", x.fault(), faults[i]);
        }
    }

    @Sentence(promise = 6, words = "20 and s: PRICE of STATE s; 30 and 3 s and t: CHANCE from s to t. BAD.")
    static void whatIsTold() {
        TakeOrPay x = told("price 0 1;price 2 60;chance 0 0 0 4;chance 1 0 4 0;chance 2 3 0 1;");
        int[] prices = {1, 20, 60};
        int[] chances = {0, 0, 4, 0, 4, 0, 3, 0, 1};
        for (int what = -3; what < 44; what++) {
            if (what >= 20 && what <= 22) {
                due("told " + what, x.told(what), prices[what - 20]);
            } else if (what >= 30 && what <= 38) {
                due("told " + what, x.told(what), chances[what - 30]);
            } else if (what < 0 || what > 15) {
                due("told " + what, x.told(what), BAD);
            } else {
                CHECK.holds("told " + what + " is told", x.told(what) >= 0);
            }
        }
        due("lowest", x.told(LOW), BAD);
        due("highest", x.told(HIGH), BAD);
    }

    @Sentence(promise = 6, words = "What holds: 0 YEARS, 1 DAYS, 2 QUANTITY, 3 LEAST, 4 MOST, 5 PAID, 6 BASE, 7 INDEX, 8 SURCHARGE, "
        + "9 MADE UP (0 no, 1 first, 2 last), 10 REST, 11 CARRIED, 12 NOTICE, 13 FREE (bits), 14 COST, 15 START;")
    static void whatHolds() {
        String[] texts = {"", "years 1;days 1;quantity 1;day 0 0;paid 0;base 1;index 0;surcharge 0;made first;rest 0;free seller;cost 0;start 0;",
            "years 4;days 5;quantity 16;day 4 4;paid 100;base 60;index 100;surcharge 20;made last;rest 60;carried;notice;free nobody;"
            + "free seller;free buyer;cost 60;start 2;", "free nobody;free buyer;"};
        int[][] held = {{2, 4, 8, 0, 3, 80, 20, 0, 0, 0, 0, 0, 0, 0, 10, 1}, {1, 1, 1, 0, 0, 0, 1, 0, 0, 1, 0, 0, 0, 2, 0, 0},
            {4, 5, 16, 4, 4, 100, 60, 100, 20, 2, 60, 1, 1, 7, 60, 2}, {2, 4, 8, 0, 3, 80, 20, 0, 0, 0, 0, 0, 0, 5, 10, 1}};
        for (int i = 0; i < texts.length; i++) {
            TakeOrPay x = told(texts[i]);
            for (int what = 0; what < 16; what++) {
                due("told " + what + " of '" + texts[i] + "'", x.told(what), held[i][what]);
            }
        }
    }

    @Sentence(promise = 7, words = "A DAY is SHUT by who (0 to 2), or not (NONE): what it was.")
    static void whatItWas() {
        TakeOrPay x = new TakeOrPay();
        int was = NONE;
        int[] whos = {NONE, 0, 0, 1, 1, 2, 2, 0, NONE, NONE, 2, 1, 0, 2, NONE, 1, NONE};
        for (int who : whos) {
            due("DAY 7 becomes " + who, x.shut(7, who), was);
            due("SHUT ones", x.count(1), who == NONE ? 0 : 1);
            was = who;
        }
        due("DAY 0 is another", x.shut(0, NONE), NONE);
    }

    @Sentence(promise = 7, words = "what it was. BAD.")
    static void shutIsBad() {
        TakeOrPay x = new TakeOrPay();
        bounds("shut", a -> x.shut(a[0], a[1]), is(0, 0), 0, 0, 7, BAD);
        bounds("shut", a -> x.shut(a[0], a[1]), is(0, 0), 1, 0, 2, BAD);
        due("STATE is no who", x.shut(0, STATE), BAD);
        due("FULL is no who", x.shut(0, FULL), BAD);
        due("-5 is no who", x.shut(0, -5), BAD);
        due("a DAY that is none, opened", x.shut(8, NONE), BAD);
    }

    @Sentence(promise = 8, words = "Of a YEAR: 0 QUANTITY, 1 TOP, 2 FREE ones. BAD.")
    static void yearIsBad() {
        TakeOrPay x = told("years 3;");
        boundsFrom0("year", a -> x.year(a[0], a[1]), is(0, 0), is(2, 2), BAD);
    }

    @Sentence(promise = 9, words = "TOP of a YEAR, if all its SHUT DAYS were the seller's (what 0), the buyer's (1), nobody's (2).")
    static void ifAllWere() {
        String[] lines = {"free seller;", "free buyer;", "free nobody;"};
        for (int line = 0; line < 3; line++) {
            TakeOrPay x = told("years 2;days 5;quantity 7;paid 100;" + lines[line]);
            for (int what = 0; what < 3; what++) {
                due("none is SHUT", x.whose(0, what), 7);
            }
            x.shut(0, NOBODY);
            x.shut(1, SELLER);
            x.shut(2, BUYER);
            x.shut(5, BUYER);
            for (int what = 0; what < 3; what++) {
                due("7 less 21 by 5", x.whose(0, what), what == line ? 3 : 7);
                due("7 less 7 by 5", x.whose(1, what), what == line ? 6 : 7);
            }
            x.shut(3, NOBODY);
            x.shut(4, NOBODY);
            due("all are SHUT", x.whose(0, line), 0);
            due("it is one of five of its own kind", x.year(0, 2), line == 2 ? 3 : 1);
        }
    }

    @Sentence(promise = 9, words = "nobody's (2). BAD.")
    static void whoseIsBad() {
        TakeOrPay x = told("years 3;");
        boundsFrom0("whose", a -> x.whose(a[0], a[1]), is(0, 0), is(2, 2), BAD);
    }
}
