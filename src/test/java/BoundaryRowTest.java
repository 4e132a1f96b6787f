/** Boundary cases of THE ROW, of drawn ones, and of promises 20 to 26. */
public final class BoundaryRowTest extends Boundary {
    public static void main(String[] args) throws IllegalAccessException {
        runAll(BoundaryRowTest.class);
    }

    @Sentence(words = "THE ROW: of DAYS from 0 on a STATE and what was TAKEN (told by hand, or read).")
    static void fromDay0On() {
        TakeOrPay x = told("years 1;days 3;");
        due("no DAY yet", x.rowOf(0, 0), BAD);
        days(x, 2, 9);
        x.sheet(0, 0, 2);
        lay(x, 0, 1, 4);
        due("read behind it", x.read(0, 0, 0, 1), 1);
        days(x, 0, 0);
        int[][] want = {{2, 9}, {1, 4}, {0, 0}};
        for (int day = 0; day < 3; day++) {
            due("STATE of DAY " + day, x.rowOf(day, 0), want[day][0]);
            due("TAKEN on DAY " + day, x.rowOf(day, 1), want[day][1]);
        }
        due("no more", x.rowOf(3, 0), BAD);
    }

    @Sentence(words = "It MAY NOT be from the first DAY on at which x is below LEAST or above MOST, or is not 0 and the DAY is SHUT.")
    static void mayNotBe() {
        int[] wrong = {0, 4, 5, 9};
        for (int taken : wrong) {
            TakeOrPay x = told("day 1 3;");
            days(x, 0, 1, 0, 3, 0, taken, 0, 2, 0, taken);
            due("1 and 3 MAY be, " + taken + " not", x.row(1), 2);
            x.back();
            x.back();
            due("it is the last", x.row(1), 2);
            x.back();
            due("it went", x.row(1), NONE);
        }
        for (int who = 0; who < 3; who++) {
            TakeOrPay x = told("day 1 3;");
            x.shut(0, who);
            x.shut(7, who);
            days(x, 0, 0, 0, 1);
            due("SHUT: 0 MAY be, below LEAST, too", x.row(1), NONE);
            days(x, 0, 1, 0, 1, 0, 1, 0, 1, 0, 1, 0, 1);
            due("SHUT: 1 MAY NOT be", x.row(1), 7);
            x.shut(7, NONE);
            due("open: 1 MAY be", x.row(1), NONE);
            due("SHUT anew", x.shut(3, who), NONE);
            due("from DAY 3 on", x.row(1), 3);
            x.shut(0, NONE);
            due("open: 0 is below LEAST", x.row(1), 0);
        }
    }

    @Sentence(words = "By it COUNTED, MADE, CREDIT, what is owed follow, whether it MAY be or not.")
    static void whatFollows() {
        TakeOrPay x = told("years 3;days 2;quantity 4;paid 100;made first;carried;rest 1;surcharge 1;");
        x.shut(0, NOBODY);
        days(x, 0, 9);
        due("COUNTED 9 on a SHUT DAY", x.row(2), 9);
        due("paid, 5 above QUANTITY", x.row(5), 18500);
        due("GAIN", x.row(6), 13500 - 18500);
        days(x, 0, 0);
        due("CREDIT of it", x.row(4), 5);
        days(x, 0, 0, 0, 0);
        due("4 less 5: none SHORT", x.row(7), 0);
        due("MADE", x.row(3), 0);
        TakeOrPay made = told("years 2;days 1;quantity 8;paid 100;made first;rest 1;day 0 1;");
        days(made, 0, 0, 0, 9);
        due("8 of 9 made up, above MOST", made.rowOf(1, 3), 8);
        due("8 at 1, 1 at 20", made.rowOf(1, 2), 2800);
        due("MADE", made.row(3), 0);
        due("COUNTED", made.row(2), 1);
        due("it MAY NOT be", made.row(1), 1);
    }

    @Sentence(words = "THE ROW's GAIN: of its DAYS, less what is paid for SHORT of those YEARS whose last DAY it has.")
    static void gainOfARow() {
        TakeOrPay x = told("years 2;days 2;quantity 4;paid 100;");
        due("no DAYS", x.row(6), 0);
        days(x, 2, 1);
        due("the first DAY of two", x.row(6), 1000);
        due("none SHORT yet", x.row(7), 0);
        days(x, 0, 1);
        due("the last of the YEAR: 2 SHORT", x.row(6), 1000 - 500 - 4000);
        due("2 SHORT", x.row(7), 2);
        due("what was paid", x.row(5), 8000);
        days(x, 0, 0);
        due("the first of the next", x.row(6), -3500);
        days(x, 0, 0);
        due("its last: 4 SHORT", x.row(6), -11500);
        due("6 SHORT", x.row(7), 6);
        x.back();
        due("without its last DAY again", x.row(6), -3500);
    }

    @Sentence(words = "KNEW: what THE BEST, DAY by DAY from the first on, would have GAINED on its STATES, likewise.")
    static void knewOfARow() {
        // At 15 for 20 each taken loses 500; two of 4 can be taken, two are SHORT.
        TakeOrPay x = told("years 2;days 2;quantity 4;paid 100;day 0 1;start 0;chance 0 4 0 0;");
        int[] gains = {-500, -5000, -5500, -10000};
        due("no DAYS", x.knew(0), 0);
        for (int day = 0; day < 4; day++) {
            days(x, 0, 9);
            due("DAYS to " + day, x.knew(0), gains[day]);
        }
        x.back();
        due("DAYS to 2", x.knew(0), gains[2]);
    }

    @Sentence(words = "CAME: the greatest GAIN of any takings that MAY be on its STATES (THE ROW whole alone).")
    static void cameOfARow() {
        TakeOrPay x = told("years 2;days 2;paid 0;day 1 3;");
        int[] states = {2, 0, 2, 1};
        for (int s : states) {
            due("not whole", x.came(0), STATE_MONEY);
            days(x, s, 9);
        }
        due("3 at 30, 1 at 15, 3 at 30, any at 20", x.came(0), 3000 - 500 + 3000);
        x.shut(2, SELLER);
        due("SHUT: 0 alone", x.came(0), 2500);
        x.back();
        due("not whole", x.came(0), STATE_MONEY);
    }

    @Sentence(words = "A DRAWN STATE: the seed (an int) becomes seed times 1103515245 and 12345; bits 16 to 30 of it modulo 4: "
        + "CHANCES one behind another.")
    static void drawnStates() {
        int[] seeds = {0, 1, -1, 2, LOW, LOW + 1, HIGH, HIGH - 1, 12345, -987654321, 0x10000, 0x8000};
        String[] pages = {"", "chance 0 4 0 0;start 0;", "chance 0 0 4 0;chance 1 0 0 4;chance 2 4 0 0;", "chance 0 0 0 4;chance 2 0 0 4;",
            "chance 0 1 0 3;chance 1 3 0 1;chance 2 0 3 1;", "chance 0 2 2 0;chance 1 0 2 2;chance 2 2 0 2;start 2;"};
        for (String page : pages) {
            for (int seed : seeds) {
                drawnBeside("years 4;days 5;day 0 1;paid 0;" + page, seed, false);
                drawnBeside("years 4;days 5;day 0 1;paid 0;notice;" + page, seed, true);
            }
        }
        // Seed 1 gives 16838, 5758, 10113, 17515 (as an old C's rand() does): 2, 2, 1, 3 of 4.
        TakeOrPay x = told("years 1;days 5;chance 0 1 1 2;chance 1 1 1 2;chance 2 1 1 2;");
        x.draw(1);
        int[] states = {1, 2, 2, 1, 2};
        for (int day = 0; day < 5; day++) {
            due("seed 1, DAY " + day, x.rowOf(day, 0), states[day]);
        }
    }

    /** The seed goes as a number without a sign, of which the lowest 32 bits are kept. */
    private static void drawnBeside(String page, int seed, boolean notice) {
        TakeOrPay x = told(page);
        x.draw(seed);
        long now = seed & 0xffffffffL;
        int state = x.told(15);
        for (int day = 0; day < 20; day++) {
            if (day > 0 || notice) {
                now = (now * 1103515245L + 12345) % (1L << 32);
                long of4 = now / 65536 % 32768 % 4;
                int from = state;
                state = 0;
                for (long left = of4; state < 2 && left >= x.told(30 + 3 * from + state); state++) {
                    left -= x.told(30 + 3 * from + state);
                }
            }
            due("seed " + seed + " of '" + page + "', DAY " + day, x.rowOf(day, 0), state);
        }
    }

    @Sentence(promise = 20, words = "THE ROW goes on by a DAY: STATE s, x TAKEN (0 to 9): how many DAYS it has.")
    static void goesOn() {
        TakeOrPay x = told("years 1;days 5;");
        due("the least", x.day(0, 0), 1);
        due("the most", x.day(2, 9), 2);
        due("above MOST", x.day(1, 4), 3);
        due("x 10", x.day(1, 10), BAD);
        due("x -1", x.day(1, -1), BAD);
        due("it goes on from there", x.day(1, 1), 4);
    }

    @Sentence(promise = 20, words = "BAD; FULL: all there are.")
    static void dayIsRefused() {
        TakeOrPay x = told("years 4;days 5;");
        bounds("day", a -> x.day(a[0], a[1]), is(0, 0), 0, 0, 2, BAD);
        bounds("day", a -> x.day(a[0], a[1]), is(0, 0), 1, 0, 9, BAD);
        due("four came", x.count(2), 4);
        for (int day = 5; day <= 20; day++) {
            due("day", x.day(0, 0), day);
        }
        due("all there are", x.day(0, 0), FULL);
        due("still", x.count(2), 20);
        due("BAD comes first", x.day(3, 0), BAD);
        x.back();
        due("one has room", x.day(0, 0), 20);
        TakeOrPay one = told("years 1;days 1;");
        due("one", one.day(0, 0), 1);
        due("all there are", one.day(0, 0), FULL);
    }

    @Sentence(promise = 21, words = "The latest DAY of THE ROW goes: how many it has. NONE.")
    static void back() {
        TakeOrPay x = new TakeOrPay();
        due("none", x.back(), NONE);
        days(x, 0, 1, 1, 2);
        due("the second", x.back(), 1);
        due("the first stays", x.rowOf(0, 1), 1);
        due("the second went", x.rowOf(1, 1), BAD);
        due("the first", x.back(), 0);
        due("none", x.back(), NONE);
        due("none", x.back(), NONE);
        due("it has", x.count(2), 0);
        x.draw(1);
        for (int day = 7; day >= 0; day--) {
            due("a drawn one", x.back(), day);
        }
        due("none", x.back(), NONE);
    }

    @Sentence(promise = 22, words = "Of THE ROW: 0 DAYS, 1 the first DAY from which on it MAY NOT be (NONE)")
    static void firstThatMayNotBe() {
        TakeOrPay x = told("years 1;days 2;");
        due("no DAYS", x.row(0), 0);
        due("no DAYS", x.row(1), NONE);
        days(x, 0, 3);
        due("MOST", x.row(1), NONE);
        days(x, 0, 4);
        due("above MOST", x.row(1), 1);
        x.back();
        x.back();
        days(x, 0, 4);
        due("DAY 0", x.row(1), 0);
        days(x, 0, 3);
        due("from DAY 0 on", x.row(1), 0);
        due("all DAYS", x.row(0), 2);
    }

    @Sentence(promise = 22, words = "2 COUNTED now, 3 MADE, 4 CREDIT (of the YEAR in which the next DAY is; the last YEAR's at its end)")
    static void whatStands() {
        TakeOrPay x = told("years 3;days 1;quantity 1;paid 100;carried;made first;");
        stands(x, 0, 0, 0);
        days(x, 0, 9);
        stands(x, 0, 0, 8);
        days(x, 0, 0);
        stands(x, 0, 0, 0);
        days(x, 0, 7);
        stands(x, 7, 0, 0);
        TakeOrPay credit = told("years 2;days 1;quantity 1;paid 100;carried;");
        days(credit, 0, 5, 0, 9);
        stands(credit, 9, 0, 4);
        credit.back();
        stands(credit, 0, 0, 4);
        credit.back();
        stands(credit, 0, 0, 0);
        TakeOrPay made = told("years 2;days 2;quantity 4;paid 100;made first;");
        days(made, 0, 1);
        stands(made, 1, 0, 0);
        days(made, 0, 1);
        stands(made, 0, 2, 0);
        days(made, 0, 1);
        stands(made, 0, 1, 0);
        days(made, 0, 0);
        stands(made, 0, 1, 0);
        made.back();
        made.back();
        made.back();
        stands(made, 1, 0, 0);
    }

    private static void stands(TakeOrPay x, int counted, int made, int credit) {
        due("COUNTED of " + x.count(2), x.row(2), counted);
        due("MADE of " + x.count(2), x.row(3), made);
        due("CREDIT of " + x.count(2), x.row(4), credit);
    }

    @Sentence(promise = 22, words = "5 what was paid, 6 GAIN, 7 SHORT in all YEARS that are at their END.")
    static void shortAtTheirEnd() {
        TakeOrPay x = told("years 2;days 2;quantity 16;paid 100;base 60;");
        int[] shorts = {0, 0, 12, 12, 24};
        for (int day = 0; day <= 4; day++) {
            due("SHORT of " + day + " DAYS", x.row(7), shorts[day]);
            due("what was paid", x.row(5), 6000 * shorts[day]);
            due("GAIN", x.row(6), -6000 * shorts[day]);
            x.day(2, 0);
        }
    }

    @Sentence(promise = 22, words = "BAD -1000000.")
    static void rowIsBad() {
        TakeOrPay x = new TakeOrPay();
        bounds("row", a -> x.row(a[0]), is(0), 0, 0, 7, BAD_MONEY);
    }

    @Sentence(promise = 23, words = "Of a DAY of THE ROW: 0 STATE, 1 TAKEN, 2 what was paid that DAY (not for SHORT), 3 how many were made up.")
    static void ofADay() {
        TakeOrPay x = told("years 2;days 1;quantity 4;paid 100;made first;rest 1;");
        days(x, 0, 0, 2, 9);
        due("nothing for SHORT", x.rowOf(0, 2), 0);
        due("none made up", x.rowOf(0, 3), 0);
        due("4 at 1, 5 at 20", x.rowOf(1, 2), 10400);
        due("made up", x.rowOf(1, 3), 4);
        due("STATE", x.rowOf(1, 0), 2);
        due("TAKEN", x.rowOf(1, 1), 9);
    }

    @Sentence(promise = 23, words = "3 how many were made up. BAD.")
    static void rowOfIsBad() {
        TakeOrPay x = new TakeOrPay();
        for (int what = 0; what < 4; what++) {
            due("an empty row", x.rowOf(0, what), BAD);
        }
        days(x, 0, 0, 0, 0, 0, 0);
        boundsFrom0("rowOf", a -> x.rowOf(a[0], a[1]), is(0, 0), is(2, 3), BAD);
        due("a DAY that THE ROW has not yet", x.rowOf(7, 0), BAD);
    }

    @Sentence(promise = 24, words = "KNEW: GAIN of THE BEST on THE ROW's STATES (what 0), that less what THE ROW GAINED (1).")
    static void knewLessGained() {
        TakeOrPay x = told("years 1;days 2;paid 0;day 0 1;");
        due("no DAYS", x.knew(0), 0);
        due("no DAYS", x.knew(1), 0);
        days(x, 2, 0);
        due("one at 30", x.knew(0), 1000);
        due("not taken", x.knew(1), 1000);
        days(x, 2, 9);
        due("two at 30", x.knew(0), 2000);
        due("above MOST more is won: below 0", x.knew(1), 2000 - 9000);
    }

    @Sentence(promise = 24, words = "(With NOTICE 1 the STATE known for DAY 0 is START.) BAD -1000000.")
    static void knewOfDay0() {
        String day = "years 1;days 2;paid 0;day 0 1;chance 0 4 0 0;chance 2 0 0 4;notice;";
        TakeOrPay high = told(day + "start 2;");
        days(high, 0, 0);
        due("30 was told: taken at 15", high.knew(0), -500);
        days(high, 2, 0);
        due("15 was told: not taken at 30", high.knew(0), -500);
        TakeOrPay low = told(day + "start 0;");
        days(low, 2, 0);
        due("15 was told: not taken at 30", low.knew(0), 0);
        days(low, 0, 0);
        due("30 was told: taken at 15", low.knew(0), -500);
        bounds("knew", a -> high.knew(a[0]), is(0), 0, 0, 1, BAD_MONEY);
    }

    @Sentence(promise = 25, words = "CAME: the greatest GAIN (what 0), the least row of takings that has it, as figures to the base 5, "
        + "DAY 0 the highest (1; rows of 13 DAYS at most).")
    static void leastRow() {
        due("all alike at 20: 000", whole("years 1;days 3;paid 0;day 0 4;", 1).came(1), 0);
        due("all alike at 20: 111", whole("years 1;days 3;paid 0;day 1 4;", 1).came(1), 31);
        due("30: 444", whole("years 1;days 3;paid 0;day 0 4;", 2).came(1), 124);
        due("one of three at 15: 001", whole("years 1;days 3;quantity 1;paid 100;", 0).came(1), 1);
        due("one DAY", whole("years 1;days 1;paid 0;day 0 4;", 2).came(1), 4);
        due("4 of 3 and 3 at 15: 013", whole("years 1;days 3;quantity 4;paid 100;day 0 3;", 0).came(1), 8);
        due("their GAIN", whole("years 1;days 3;quantity 4;paid 100;day 0 3;", 0).came(0), -2000);
        TakeOrPay three = told("years 1;days 3;quantity 4;paid 100;day 0 3;");
        days(three, 0, 0, 2, 0, 1, 0);
        due("3 at 30, one more at 20: 031", three.came(1), 16);
        due("1 a YEAR: 11", whole("years 2;days 1;quantity 1;paid 100;day 0 3;", 0).came(1), 6);
        due("2 SHORT cost 4000, made up at 15 for nothing win 3000: 04 as 22", whole("years 2;days 1;quantity 4;paid 50;day 0 4;made first;", 0).came(1), 4);
        TakeOrPay x = whole("years 1;days 3;paid 0;day 4 4;", 0);
        x.shut(0, BUYER);
        due("SHUT: 044", x.came(1), 24);
        x.shut(2, BUYER);
        due("SHUT: 040", x.came(1), 20);
        due("12 DAYS, 3 a YEAR", whole("years 4;days 3;paid 0;day 4 4;", 0).came(1), 244140624);
        due("12 DAYS, 4 a YEAR", whole("years 3;days 4;paid 0;day 4 4;", 0).came(1), 244140624);
        due("their GAIN", whole("years 3;days 4;paid 0;day 4 4;", 0).came(0), -24000);
        due("20 DAYS have a GAIN", whole("years 4;days 5;paid 0;day 4 4;", 0).came(0), -40000);
    }

    private static TakeOrPay whole(String page, int state) {
        TakeOrPay x = told(page);
        int all = x.count(0);
        for (int day = 0; day < all; day++) {
            x.day(state, 9);
        }
        return x;
    }

    @Sentence(promise = 25, words = "BAD -1000000; STATE -1000002: THE ROW is not whole; for 1 more than 13.")
    static void cameIsRefused() {
        TakeOrPay x = whole("years 1;days 2;", 0);
        bounds("came", a -> x.came(a[0]), is(0), 0, 0, 1, BAD_MONEY);
        x.back();
        for (int what = 0; what < 2; what++) {
            due("one DAY is missing", x.came(what), STATE_MONEY);
            due("an empty row", new TakeOrPay().came(what), STATE_MONEY);
        }
        due("BAD comes first", x.came(2), BAD_MONEY);
        String[] pages = {"years 3;days 5;", "years 4;days 4;", "years 4;days 5;"};
        for (String page : pages) {
            TakeOrPay more = whole(page + "paid 0;", 1);
            due(page + ": more than 13", more.came(1), STATE_MONEY);
            due(page + ": its GAIN", more.came(0), 0);
        }
    }

    @Sentence(promise = 26, words = "A year or more is DRAWN: THE ROW becomes STATES DRAWN by a seed from the first DAY on, "
        + "TAKEN by THE BEST, to the end: its GAIN.")
    static void drawn() {
        int[] seeds = {0, 1, -1, LOW, HIGH};
        String[] pages = {"years 1;days 1;", "years 4;days 5;made last;carried;", "years 2;days 3;day 1 2;notice;", "years 1;days 5;day 4 4;"};
        for (String page : pages) {
            for (int seed : seeds) {
                TakeOrPay x = told(page);
                x.day(0, 9);
                x.shut(0, SELLER);
                int gain = x.draw(seed);
                due("its GAIN", gain, x.row(6));
                due("to the end", x.row(0), x.count(0));
                due("FULL", x.day(0, 0), FULL);
                due("what there was went", x.rowOf(0, 1), 0);
                due("it MAY be", x.row(1), NONE);
                due("by THE BEST", x.knew(1), 0);
                int other = x.draw(seed ^ 0x5a5a5a);
                due("another seed, in place of that", other, x.row(6));
                due("the same again", x.draw(seed), gain);
            }
        }
        TakeOrPay one = told("years 1;days 1;paid 0;start 2;");
        due("one DAY: START, whatever the seed is", one.draw(HIGH), 3000);
        due("one DAY: START, whatever the seed is", one.draw(LOW), 3000);
    }
}
