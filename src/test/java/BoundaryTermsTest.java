/** Boundary cases of what the document says of all answers. */
public final class BoundaryTermsTest extends Boundary {
    public static void main(String[] args) throws IllegalAccessException {
        runAll(BoundaryTermsTest.class);
    }

    @Sentence(words = "An object is used for at most 512 calls after it has been made; what later calls answer is free.")
    static void theLastCall() {
        TakeOrPay x = new TakeOrPay();
        for (int i = 0; i < 63; i++) {
            x.shut(i % 8, i % 3);
            x.whole(0, 0);
            x.offers(0);
            x.without(i % 8, 0, 0);
            x.jumps((i + 1) % 8, i % 13, i % 9, i % 3, 0);
            x.draw(i);
            x.came(1);
            x.shut(i % 8, NONE);
        }
        for (int i = 0; i < 6; i++) {
            x.feed(0);
        }
        due("the 511th: as of a new object", x.offers(3), new TakeOrPay().offers(3));
        due("the 512th: as of a new object", x.whole(0, 0), new TakeOrPay().whole(0, 0));
        TakeOrPay pages = new TakeOrPay();
        for (int i = 0; i < 256; i++) {
            long text = Check.eight("base " + (10 + i % 50) + ";", 0);
            due("feed", pages.feed(text), 8);
            due("page", pages.page(), 1);
        }
        TakeOrPay rows = new TakeOrPay();
        for (int i = 0; i < 256; i++) {
            due("day", rows.day(i % 3, i % 10), 1);
            due("back", rows.back(), 0);
        }
    }

    @Sentence(words = "BAD -1 (a number is not as told, there is no such DAY, STATE of prices, WORD, SHEET)")
    static void thereIsNoSuch() {
        TakeOrPay x = new TakeOrPay();
        due("a number: what 5 of count", x.count(5), BAD);
        due("a number: 1 byte of none", x.end(1), BAD);
        due("a number: YEAR 2", x.year(2, 0), BAD);
        int[] days = {8, -1, LOW, HIGH};
        for (int day : days) {
            due("DAY of shut", x.shut(day, NOBODY), BAD);
            due("DAY of best", x.best(day, 0, 0, 0, 0), BAD);
            due("DAY of jumps", x.jumps(day, 0, 0, 0, 0), BAD);
            due("DAY of takes", x.takes(day, 0, 0, 0, 0, 0, 0), BAD_MONEY);
            due("DAY of rowOf", x.rowOf(day, 0), BAD);
        }
        int[] states = {3, -1, LOW, HIGH};
        for (int s : states) {
            due("STATE of day", x.day(s, 0), BAD);
            due("STATE of best", x.best(0, 0, 0, 0, s), BAD);
            due("STATE of jumps", x.jumps(0, 0, 0, s, 0), BAD);
            due("STATE of takes", x.takes(0, 0, 0, 0, s, 0, 0), BAD_MONEY);
        }
        int[] words = {8, -1, LOW, HIGH};
        for (int word : words) {
            due("WORD", x.without(word, 0, 0), BAD_WORTH);
        }
        int[] sheets = {4, -1, LOW, HIGH};
        for (int k : sheets) {
            due("SHEET of sheet", x.sheet(k, 0, 1), BAD);
            due("SHEET of lay", x.lay(k, 0, 1), BAD);
            due("SHEET of read", x.read(k, 0, 0, 1), BAD);
        }
    }

    @Sentence(words = "STATE -2 (as told), FULL -3, NONE -4 (there is none)")
    static void theOtherAnswers() {
        TakeOrPay x = told("years 1;days 1;");
        due("NONE: no DAY to go back", x.back(), -4);
        due("NONE: no DAY that may not be", x.row(1), -4);
        due("NONE: SHEET 0 has nothing", x.count(4), -4);
        due("NONE: it was not SHUT", x.shut(0, NOBODY), -4);
        due("STATE: it is SHUT", x.jumps(0, 0, 0, 0, 0), -2);
        x.day(0, 0);
        due("FULL: all DAYS are there", x.day(0, 0), -3);
        for (int i = 0; i < 40; i++) {
            x.feed(0);
        }
        due("FULL: all bytes are there", x.feed(0), -3);
    }

    @Sentence(words = "the first that fits")
    static void theFirstThatFits() {
        TakeOrPay x = told("years 1;days 1;");
        due("takes: x 4 is above MOST 3", x.takes(0, 0, 0, 0, 0, 4, 0), STATE_MONEY);
        due("takes: that, and what 4", x.takes(0, 0, 0, 0, 0, 4, 4), BAD_MONEY);
        due("takes: that, and COUNTED 21", x.takes(0, 21, 0, 0, 0, 4, 0), BAD_MONEY);
        due("worthOf: x 4 is above MOST 3", x.worthOf(0, 0, 0, 0, 0, 4, 0), STATE_WORTH);
        due("worthOf: that, and what 2", x.worthOf(0, 0, 0, 0, 0, 4, 2), BAD_WORTH);
        due("worthOf: that, and CREDIT 9", x.worthOf(0, 0, 0, 9, 0, 4, 0), BAD_WORTH);
        due("came: THE ROW is not whole", x.came(0), STATE_MONEY);
        due("came: that, and what 2", x.came(2), BAD_MONEY);
        x.shut(0, NOBODY);
        due("jumps: SHUT", x.jumps(0, 0, 0, 0, 0), STATE);
        due("jumps: SHUT, and what 2", x.jumps(0, 0, 0, 0, 2), BAD);
        due("jumps: SHUT, and MADE 13", x.jumps(0, 13, 0, 0, 0), BAD);
        x.day(0, 0);
        due("day: FULL", x.day(0, 0), FULL);
        due("day: FULL, and STATE 3", x.day(3, 0), BAD);
        due("day: FULL, and x 10", x.day(0, 10), BAD);
        due("sheet: SIZE", x.sheet(0, 0, -1), -14);
        due("sheet: SIZE, and k 4", x.sheet(4, 0, -1), BAD);
        due("sheet: SIZE, and lane 3", x.sheet(0, 3, -1), BAD);
        due("lay: NULL, and no CELL", x.lay(0, -1, 0), -11);
        due("lay: NULL, and k 4", x.lay(4, 0, 0), BAD);
    }

    @Sentence(words = "what is refused changes nothing (but THE TAPE, as told)")
    static void whatIsRefusedChangesNothing() {
        changesNothing("feed", x -> x.feed(0), FULL);
        changesNothing("end above", x -> x.end(321), BAD);
        changesNothing("end below", x -> x.end(-1), BAD);
        changesNothing("told", x -> x.told(16), BAD);
        changesNothing("shut a DAY", x -> x.shut(6, SELLER), BAD);
        changesNothing("shut by who", x -> x.shut(0, 3), BAD);
        changesNothing("open by BAD", x -> x.shut(1, -1), BAD);
        changesNothing("takes", x -> x.takes(0, 0, 0, 0, 0, 4, 0), STATE_MONEY);
        changesNothing("ends", x -> x.ends(0, 21, 0, 0), BAD);
        changesNothing("worthOf", x -> x.worthOf(1, 0, 0, 0, 0, 1, 0), STATE_WORTH);
        changesNothing("without", x -> x.without(8, 0, 0), BAD_WORTH);
        changesNothing("jumps", x -> x.jumps(1, 0, 0, 0, 0), STATE);
        changesNothing("offers", x -> x.offers(5), BAD_WORTH);
        changesNothing("day of STATE 3", x -> x.day(3, 1), BAD);
        changesNothing("day of 10", x -> x.day(1, 10), BAD);
        changesNothing("row", x -> x.row(8), BAD_MONEY);
        changesNothing("knew", x -> x.knew(2), BAD_MONEY);
        changesNothing("came", x -> x.came(0), STATE_MONEY);
        changesNothing("sheet of 49", x -> x.sheet(0, 0, 49), BAD);
        changesNothing("sheet of lane 3", x -> x.sheet(0, 3, 1), BAD);
        changesNothing("sheet of -1", x -> x.sheet(0, 0, -1), -14);
        changesNothing("lay beyond", x -> x.lay(0, 6, 1), -12);
        changesNothing("lay below", x -> x.lay(0, -1, 1), -12);
        changesNothing("lay of nothing", x -> x.lay(3, 0, 1), -11);
        changesNothing("read of 21", x -> x.read(0, 1, 0, 21), BAD);
        changesNothing("read of a day that is BAD", x -> x.read(0, 1, 0, 3), -22);
        changesNothing("read of more than there are", x -> x.read(1, 2, 0, 5), FULL);
        pageByAFault();
        TakeOrPay empty = new TakeOrPay();
        due("back of none", empty.back(), NONE);
        due("still none", empty.count(2), 0);
        due("and one goes on from there", empty.day(0, 0), 1);
    }

    /** THE TAPE alone goes; it is fed anew ahead of asking, so that all can be asked alike. */
    private static void pageByAFault() {
        TakeOrPay x = full();
        x.end(0);
        Check.feed(x, "years 1;base 0;");
        x.page();
        Check.feed(x, "years 1;base 0;");
        String before = everything(x);
        due("page", x.page(), -23);
        due("but THE TAPE", x.count(3), 0);
        Check.feed(x, "years 1;base 0;");
        String after = everything(x);
        CHECK.holds("page changes nothing else: " + before + " became " + after, before.equals(after));
        due("DAY 1 as it was", x.shut(1, NONE), SELLER);
    }

    /** The call is refused, and all that can be asked for is as it was. */
    private static void changesNothing(String name, Asked call, long answer) {
        TakeOrPay x = full();
        String before = everything(x);
        due(name, call.of(x), answer);
        String after = everything(x);
        CHECK.holds(name + " changes nothing: " + before + " became " + after, before.equals(after));
        due(name + ": DAY 0 as it was", x.shut(0, NONE), NONE);
        due(name + ": DAY 1 as it was", x.shut(1, NONE), SELLER);
        due(name + ": the bytes as they were", x.page(), 1);
        due(name + ": BASE of these", x.told(6), 59);
        due(name + ": the CELLS as they were", x.read(0, 1, 0, 2), 2);
        due(name + ": CELL 2, 3", 10 * x.rowOf(1, 0) + x.rowOf(1, 1), 14);
        due(name + ": CELL 4, 5", x.read(0, 1, 4, 1), -20);
    }

    /** Six DAYS, one of them SHUT; two in THE ROW; a full TAPE; two SHEETS; a FAULT of each kind of text. */
    private static TakeOrPay full() {
        TakeOrPay x = told("years 2;days 3;free seller;made last;carried;");
        x.shut(1, SELLER);
        days(x, 2, 3, 0, 0);
        x.sheet(0, 1, 6);
        lay(x, 0, 2, 3, 1, 4, 3, 0);
        x.sheet(1, 2, 10);
        x.read(2, 0, 0, 1);
        Check.feed(x, blanks(312) + "base 59;");
        return x;
    }

    private static String everything(TakeOrPay x) {
        StringBuilder b = new StringBuilder();
        for (int what = 0; what < 39; what++) {
            b.append(x.told(what)).append(' ');
        }
        for (int what = 0; what < 5; what++) {
            b.append(x.count(what)).append(' ');
        }
        for (int what = 0; what < 8; what++) {
            b.append(x.row(what)).append(' ');
        }
        for (int what = 0; what < 4; what++) {
            b.append(x.rowOf(0, what)).append(' ').append(x.rowOf(1, what)).append(' ');
        }
        for (int what = 0; what < 3; what++) {
            b.append(x.year(0, what)).append(' ').append(x.whose(0, what)).append(' ');
        }
        b.append(x.fault()).append(' ').append(x.torn()).append(' ').append(x.knew(0)).append(' ');
        b.append(x.whole(0, 0)).append(' ').append(x.whole(1, 0)).append(' ').append(x.offers(0));
        return b.toString();
    }

    @Sentence(words = "What is numbered has its numbers from 0 on, as it comes")
    static void numbersFrom0() {
        TakeOrPay x = told("years 3;days 2;free seller;price 0 1;price 1 2;price 2 3;");
        due("YEAR 0", x.year(0, 0), 8);
        due("YEAR 2, the third", x.year(2, 0), 8);
        due("YEAR 3", x.year(3, 0), BAD);
        due("DAY 0", x.shut(0, SELLER), NONE);
        due("is of YEAR 0", x.year(0, 2), 1);
        due("DAY 5, the sixth", x.shut(5, SELLER), NONE);
        due("is of YEAR 2", x.year(2, 2), 1);
        due("DAY 6", x.shut(6, SELLER), BAD);
        due("PRICE of STATE 0", x.told(20), 1);
        due("PRICE of STATE 2", x.told(22), 3);
        due("SHEET 0", x.sheet(0, 0, 1), 1);
        due("SHEET 3, the fourth", x.sheet(3, 0, 1), 1);
        due("SHEET 4", x.sheet(4, 0, 1), BAD);
        due("CELL 0", x.lay(3, 0, 1), 1);
        due("CELL 1 of one", x.lay(3, 1, 1), -12);
    }

    @Sentence(words = "Fractions are in lowest terms, the denominator above 0.")
    static void lowestTerms() {
        TakeOrPay x = told("years 1;days 3;paid 0;day 0 1;base 19;price 0 18;price 2 18;");
        due("nothing is 0", told("day 0 0;paid 0;").whole(0, 0), 0);
        due("by 1", told("day 0 0;paid 0;").whole(0, 1), 1);
        due("225 by 4: a fourth is the smallest part", x.worth(0, 0, 0, 0, 0, 0), 225);
        due("by 4, not by 64", x.worth(0, 0, 0, 0, 0, 1), 4);
        due("375 by 2", x.worth(0, 0, 0, 0, 1, 1), 2);
        due("150 by 1", x.worth(1, 0, 0, 0, 1, 1), 1);
        TakeOrPay below = told("years 1;days 3;paid 0;day 1 1;base 20;price 0 19;price 1 20;price 2 20;start 0;");
        due("below 0: -100, -50, -37.5", below.whole(0, 0), -375);
        due("its denominator is above 0", below.whole(0, 1), 2);
        TakeOrPay page = told("years 2;days 3;index 33;base 7;price 0 3;price 1 8;price 2 11;carried;made last;rest 2;");
        for (int what = 0; what < 6; what += 2) {
            lowest("units", page.units(what), page.units(what + 1));
        }
        for (int word = 0; word < 8; word++) {
            for (int who = 0; who < 2; who++) {
                lowest("without", page.without(word, who, 0), page.without(word, who, 1));
            }
        }
        lowest("offers", page.offers(3), page.offers(4));
        for (int s = 0; s < 3; s++) {
            for (int counted = 0; counted <= 20; counted += 2) {
                lowest("worth", page.worth(0, counted, 2, 1, s, 0), page.worth(0, counted, 2, 1, s, 1));
                lowest("worthOf", page.worthOf(1, counted, 0, 0, s, 2, 0), page.worthOf(1, counted, 0, 0, s, 2, 1));
            }
        }
    }

    private static void lowest(String name, long top, long bottom) {
        CHECK.holds(name + " " + top + " by " + bottom + " is above 0", bottom > 0);
        long a = Math.abs(top);
        long b = bottom;
        while (b > 0) {
            long rest = a % b;
            a = b;
            b = rest;
        }
        due(name + " " + top + " by " + bottom + " have but 1 in common", a, 1);
    }

    @Sentence(words = "Money is in hundredths, but for COINS, that are 100 each.")
    static void coins() {
        TakeOrPay x = told("base 1;paid 100;quantity 1;surcharge 1;made first;rest 1;index 1;price 0 1;price 1 2;");
        due("one at 1 COIN: 99 and 1", x.takes(0, 0, 0, 0, 0, 1, 2), 100);
        due("one at 1 COIN by 99 of 100, at 2 by 1", x.takes(0, 0, 0, 0, 1, 1, 2), 101);
        due("1 COIN more", x.takes(0, 1, 0, 0, 0, 1, 2), 200);
        due("made up at 1 COIN", x.takes(0, 1, 1, 0, 0, 1, 2), 100);
        due("SHORT at 1 COIN", x.ends(0, 0, 0, 1), 100);
        due("sold at 2 COINS", x.takes(0, 0, 0, 0, 1, 1, 3), 200 - 101);
    }

    @Sentence(words = "Divided down is to the next whole number below.")
    static void dividedDown() {
        due("TOP 8 times 12 by 100", told("paid 12;").year(0, 1), 0);
        due("TOP 8 times 13 by 100", told("paid 13;").year(0, 1), 1);
        due("TOP 8 times 24 by 100", told("paid 24;").year(0, 1), 1);
        due("TOP 8 times 25 by 100", told("paid 25;").year(0, 1), 2);
        due("TOP 8 times 99 by 100", told("paid 99;").year(0, 1), 7);
        TakeOrPay x = told("years 1;days 5;quantity 9;paid 100;free buyer;");
        int[] left = {9, 8, 6, 4, 2, 0};
        for (int free = 1; free <= 5; free++) {
            x.shut(free - 1, BUYER);
            due("QUANTITY less 9 times " + free + " by 5", x.year(0, 0), left[free]);
            due("TOP less 9 times " + free + " by 5", x.year(0, 1), left[free]);
        }
    }
}
