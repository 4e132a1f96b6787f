import java.math.BigInteger;

/** Boundary cases of the best, of what it is worth, and of promises 12 to 19. */
public final class BoundaryBestTest extends Boundary {
    private static final String ONE = "years 1;days 1;";

    public static void main(String[] args) throws IllegalAccessException {
        runAll(BoundaryBestTest.class);
    }

    @Sentence(words = "GAIN: 100 times PRICE next door times x, less what is paid.")
    static void gain() {
        TakeOrPay x = told("day 0 4;price 0 1;price 2 60;");
        due("none taken", x.takes(0, 0, 0, 0, 2, 0, 3), 0);
        due("as much as is paid", x.takes(0, 0, 0, 0, 1, 4, 3), 0);
        due("the dearest", x.takes(0, 0, 0, 0, 2, 4, 3), 16000);
        due("the cheapest: below 0", x.takes(0, 0, 0, 0, 0, 4, 3), -7600);
    }

    @Sentence(words = "THE BEST: of a DAY, COUNTED (0 to 20), MADE (0 to 12), CREDIT (0 to 8) and a STATE that is known "
        + "(NOTICE 0: that DAY's; 1: that of the day ahead)")
    static void whatIsKnown() {
        String day = ONE + "paid 0;day 0 4;chance 0 0 0 4;chance 2 4 0 0;";
        int[] now = {0, 0, 4};
        int[] ahead = {4, 4, 0};
        // From STATE 1 it is 15, 20, 20, 30 a day on: 21.25 beside 20.
        for (int s = 0; s < 3; s++) {
            due("that DAY's is " + s, told(day).best(0, 0, 0, 0, s), now[s]);
            due("that of the day ahead was " + s, told(day + "notice;").best(0, 0, 0, 0, s), ahead[s]);
        }
        TakeOrPay x = told("years 4;days 5;quantity 16;paid 100;made last;carried;day 0 4;rest 14;");
        due("all at 0", x.best(0, 0, 0, 0, 2), 4);
        due("all at their most: MADE of 12 at 14 for 15", x.best(19, 20, 12, 8, 0), 4);
        due("MADE 3 alone", x.best(19, 20, 3, 8, 0), 3);
        due("DUE 12 less 8 less 3 and MADE 0", x.best(19, 3, 0, 8, 0), 1);
    }

    @Sentence(promise = 12, words = "THE BEST: x.")
    static void everyPlace() {
        for (int made = 0; made <= 12; made++) {
            for (int credit = 0; credit <= 8; credit++) {
                everyCounted(made, credit, made % 2 == 0 ? "made last;" : "made first;");
            }
        }
    }

    /** Two DAYS at 15: on each the most of what is won by takes() and, a DAY on, by worth() or ends(). */
    private static void everyCounted(int made, int credit, String how) {
        String page = "years 1;days 2;quantity 12;paid 100;day 0 3;start 0;chance 0 4 0 0;rest 14;surcharge 2;" + how;
        for (int day = 0; day < 2; day++) {
            TakeOrPay x = told(page);
            for (int counted = 0; counted <= 20; counted++) {
                long most = Long.MIN_VALUE;
                int best = 0;
                for (int taken = 0; taken <= 3; taken++) {
                    int after = x.takes(day, counted, made, credit, 0, taken, 0);
                    int left = x.takes(day, counted, made, credit, 0, taken, 1);
                    long won = x.takes(day, counted, made, credit, 0, taken, 3);
                    won += day == 0 ? x.worth(1, after, left, credit, 0, 0) : -x.ends(0, after, credit, 1);
                    if (won > most) {
                        most = won;
                        best = taken;
                    }
                }
                String place = "DAY " + day + " COUNTED " + counted + " MADE " + made + " CREDIT " + credit;
                due("best of " + place, x.best(day, counted, made, credit, 0), best);
                due("worth of " + place, x.worth(day, counted, made, credit, 0, 0), most);
            }
        }
    }

    @Sentence(words = "the x of the greatest GAIN, expected, from that DAY on to the last YEAR's END, all behind being taken by THE BEST, too")
    static void toTheLastEnd() {
        String carried = "quantity 4;paid 100;day 0 4;carried;";
        TakeOrPay two = told("years 2;days 1;" + carried);
        two.shut(1, NOBODY);
        due("at 15, above QUANTITY: each saves one SHORT of the YEAR behind", two.best(0, 4, 0, 0, 0), 4);
        due("no YEAR is behind the last", told(ONE + carried).best(0, 4, 0, 0, 0), 0);
        String made = "quantity 2;paid 100;day 0 4;made first;chance 0 0 0 4;";
        due("at 15, 30 comes: SHORT now, made up then", told("years 2;days 1;" + made).best(0, 0, 0, 0, 0), 0);
        due("what is SHORT in the last YEAR is lost", told("years 2;days 1;" + made).best(1, 0, 0, 0, 0), 2);
        due("what is SHORT in the only YEAR is lost", told(ONE + made).best(0, 0, 0, 0, 0), 2);
        TakeOrPay end = new TakeOrPay();
        due("the END of the first YEAR: one of 6 is missing", end.best(3, 5, 0, 0, 0), 1);
        due("none is missing", end.best(3, 6, 0, 0, 0), 0);
        due("the END of the last", end.best(7, 5, 0, 0, 0), 1);
        due("none is missing", end.best(7, 6, 0, 0, 0), 0);
    }

    @Sentence(words = "of several the least.")
    static void ofSeveralTheLeast() {
        due("0 to 4 alike", told(ONE + "paid 0;day 0 4;").best(0, 0, 0, 0, 1), 0);
        due("1 to 4 alike", told(ONE + "paid 0;day 1 4;").best(0, 0, 0, 0, 1), 1);
        due("4 alone", told(ONE + "paid 0;day 4 4;").best(0, 0, 0, 0, 1), 4);
        due("3 and 4 alike, below them SHORT", told(ONE + "quantity 3;paid 100;day 0 4;").best(0, 0, 0, 0, 1), 3);
        String two = "years 1;days 2;paid 100;day 0 4;chance 1 0 4 0;";
        due("all 4 can wait a day", told(two + "quantity 4;").best(0, 0, 0, 0, 1), 0);
        due("not a day more", told(two + "quantity 4;").best(1, 0, 0, 0, 1), 4);
        due("4 of 5 can wait", told(two + "quantity 5;").best(0, 0, 0, 0, 1), 1);
        due("made up at 20, sold at 20", told(ONE + "paid 0;made first;rest 20;day 0 4;").best(0, 0, 12, 0, 1), 0);
        TakeOrPay shut = told("day 3 4;");
        shut.shut(0, BUYER);
        due("SHUT: 0 alone, below LEAST, too", shut.best(0, 0, 0, 0, 2), 0);
    }

    @Sentence(words = "THE SELLER has what is paid less 100 times COST for each that is TAKEN: expected, if THE BUYER takes THE BEST.")
    static void theSeller() {
        String day = ONE + "paid 100;quantity 5;day 2 2;base 7;start 0;";
        due("2 and 3 SHORT at 7, nothing it costs", told(day + "cost 0;").whole(1, 0), 3500);
        due("2 cost 60 each", told(day + "cost 60;").whole(1, 0), 3500 - 12000);
        TakeOrPay shut = told(day + "cost 60;");
        shut.shut(0, SELLER);
        due("SHUT: 5 SHORT cost nothing", shut.whole(1, 0), 3500);
        due("nothing taken, nothing paid", told(ONE + "paid 0;day 0 0;").whole(1, 0), 0);
        due("of several the least: nothing is TAKEN", told(ONE + "paid 0;day 0 4;").whole(1, 0), 0);
    }

    private static final String[] WORD_LINES = {"paid 100;", "index 40;", "surcharge 3;", "made first;rest 4;", "carried;",
        "notice;", "free seller;free buyer;", "day 2 4;"};
    private static final String[] LEFT_OUT = {"paid 0;", "", "", "", "", "", "", "day 0 4;"};

    @Sentence(words = "WORDS 0 to 7: paid, index, surcharge, made (with rest), carried, notice, free (all), day (LEAST): "
        + "WITHOUT one it is as if it was not told (paid: 0; day: LEAST 0).")
    static void asIfItWasNotTold() {
        for (int word = 0; word < 8; word++) {
            TakeOrPay with = wordsBut(-1);
            TakeOrPay leftOut = wordsBut(word);
            for (int who = 0; who < 2; who++) {
                less("WORD " + word + ", who " + who, leftOut, with, who, with.without(word, who, 0), with.without(word, who, 1));
            }
            CHECK.holds("WORD " + word + " is worth something here", with.without(word, 0, 0) != 0);
        }
        due("WORD -1", new TakeOrPay().without(-1, 0, 0), BAD_WORTH);
        due("WORD 8", new TakeOrPay().without(8, 0, 0), BAD_WORTH);
        for (int who = 0; who < 2; who++) {
            TakeOrPay first = told(ONE + "start 0;day 0 2;");
            less("paid, not told: 0, not 80", told(ONE + "start 0;day 0 2;paid 0;"), first, who, first.without(0, who, 0),
                first.without(0, who, 1));
            CHECK.holds("that is another", first.without(0, who, 0) != 0);
            TakeOrPay rest = told("years 2;days 1;quantity 2;paid 100;made first;rest 60;day 0 2;");
            less("made, with rest", told("years 2;days 1;quantity 2;paid 100;day 0 2;"), rest, who, rest.without(3, who, 0),
                rest.without(3, who, 1));
        }
        for (int word = 1; word < 8; word++) {
            due("WORD " + word + ", not told", new TakeOrPay().without(word, 0, 0), 0);
            due("by 1", new TakeOrPay().without(word, 1, 1), 1);
        }
    }

    /** A page that has all WORDS but one; the first YEAR has two FREE ones, the second is SHUT by nobody twice. */
    private static TakeOrPay wordsBut(int word) {
        StringBuilder text = new StringBuilder("years 3;days 3;quantity 7;start 2;price 0 9;price 1 21;price 2 33;chance 2 2 0 2;");
        for (int i = 0; i < 8; i++) {
            text.append(i == word ? LEFT_OUT[i] : WORD_LINES[i]);
        }
        TakeOrPay x = told(text.toString());
        x.shut(1, SELLER);
        x.shut(2, BUYER);
        x.shut(4, NOBODY);
        x.shut(5, NOBODY);
        return x;
    }

    /** What one page is worth less what another is, beside a fraction that is to be the same. */
    private static void less(String name, TakeOrPay one, TakeOrPay other, int who, long top, long bottom) {
        BigInteger ours = big(one.whole(who, 0)).multiply(big(other.whole(who, 1)));
        BigInteger theirs = big(other.whole(who, 0)).multiply(big(one.whole(who, 1)));
        BigInteger by = big(one.whole(who, 1)).multiply(big(other.whole(who, 1)));
        CHECK.holds(name, ours.subtract(theirs).multiply(big(bottom)).equals(by.multiply(big(top))));
    }

    private static BigInteger big(long n) {
        return BigInteger.valueOf(n);
    }

    /** The pipe is SHUT and FREE on the one DAY: whatever PAID and BASE are, nothing is paid. */
    private static TakeOrPay allAlike(int paid, int base) {
        TakeOrPay x = told(ONE + "free nobody;paid " + paid + ";base " + base + ";");
        x.shut(0, NOBODY);
        return x;
    }

    @Sentence(words = "OFFERS: PAID 20 less, as it is, 20 more (0 to 100) with BASE 1 less, as it is, 1 more (1 to 60): nine at most.")
    static void howManyOffers() {
        int[][] rows = {{50, 20, 9}, {20, 20, 9}, {19, 20, 6}, {0, 20, 6}, {80, 20, 9}, {81, 20, 6}, {100, 20, 6}, {50, 2, 9},
            {50, 1, 6}, {50, 59, 9}, {50, 60, 6}, {20, 2, 9}, {80, 59, 9}, {0, 1, 4}, {19, 60, 4}, {81, 1, 4}, {100, 60, 4}};
        for (int[] r : rows) {
            due("PAID " + r[0] + " BASE " + r[1], allAlike(r[0], r[1]).offers(0), r[2]);
        }
        due("PAID 20 less", allAlike(20, 20).offers(1), 0);
        due("as it is: -1 is none", allAlike(19, 20).offers(1), 19);
        due("BASE 1 less", allAlike(50, 2).offers(2), 1);
        due("as it is: 0 is none", allAlike(50, 1).offers(2), 1);
    }

    @Sentence(promise = 12, words = "BAD: a DAY, COUNTED, MADE, CREDIT, a STATE as in takes().")
    static void bestIsBad() {
        TakeOrPay x = new TakeOrPay();
        boundsFrom0("best", a -> x.best(a[0], a[1], a[2], a[3], a[4]), is(0, 0, 0, 0, 0), is(7, 20, 12, 8, 2), BAD);
        TakeOrPay most = told("years 4;days 5;");
        boundsFrom0("best", a -> most.best(a[0], a[1], a[2], a[3], a[4]), is(19, 20, 12, 8, 2), is(19, 20, 12, 8, 2), BAD);
    }

    @Sentence(promise = 13, words = "WORTH of such: 0 the numerator, 1 the denominator. BAD -9000000000000000001.")
    static void worthIsBad() {
        TakeOrPay x = new TakeOrPay();
        boundsFrom0("worth", a -> x.worth(a[0], a[1], a[2], a[3], a[4], a[5]), is(0, 0, 0, 0, 0, 0), is(7, 20, 12, 8, 2, 1), BAD_WORTH);
        due("BAD", x.worth(8, 0, 0, 0, 0, 0), -9000000000000000001L);
        due("the last DAY with nothing owed, at 20", x.worth(7, 20, 12, 8, 1, 0), 0);
        due("by 1", x.worth(7, 20, 12, 8, 1, 1), 1);
        due("the last DAY, all owed, at 15: 3 and 3 SHORT", x.worth(7, 0, 0, 0, 0, 0), -1500 - 6000);
    }

    @Sentence(promise = 14, words = "WORTH of x taken then, THE BEST behind it: likewise.")
    static void worthOfX() {
        TakeOrPay x = told(ONE + "quantity 5;paid 100;day 0 4;");
        dues("all of x, at 15", a -> x.worthOf(0, 0, 0, 0, 0, a[0], 0), is(0, -10000), is(1, -8500), is(4, -4000));
        due("by 1", x.worthOf(0, 0, 0, 0, 0, 4, 1), 1);
        TakeOrPay first = new TakeOrPay();
        for (int s = 0; s < 3; s++) {
            int best = first.best(0, 0, 0, 0, s);
            due("of THE BEST it is WORTH", first.worthOf(0, 0, 0, 0, s, best, 0), first.worth(0, 0, 0, 0, s, 0));
            due("of THE BEST it is WORTH", first.worthOf(0, 0, 0, 0, s, best, 1), first.worth(0, 0, 0, 0, s, 1));
        }
        // At 20 always: 1 taken, the other 4 of 5 can wait; of 0 taken one is SHORT.
        TakeOrPay wait = told("years 1;days 2;quantity 5;paid 100;day 0 4;chance 1 0 4 0;");
        dues("at 20 always", a -> wait.worthOf(0, 0, 0, 0, 1, a[0], 0), is(0, -2000), is(1, 0), is(4, 0));
    }

    @Sentence(promise = 14, words = "BAD likewise: also x above 4; STATE -9000000000000000002: it MAY NOT be.")
    static void worthOfIsRefused() {
        TakeOrPay x = told("day 0 4;");
        boundsFrom0("worthOf", a -> x.worthOf(a[0], a[1], a[2], a[3], a[4], a[5], a[6]), is(0, 0, 0, 0, 0, 0, 0),
            is(7, 20, 12, 8, 2, 4, 1), BAD_WORTH);
        TakeOrPay between = told("day 1 3;");
        long[][] rows = {{LOW, BAD_WORTH}, {-1, BAD_WORTH}, {0, STATE_WORTH}, {4, STATE_WORTH}, {5, BAD_WORTH}, {HIGH, BAD_WORTH}};
        for (long[] r : rows) {
            due("x " + r[0], between.worthOf(0, 0, 0, 0, 0, (int) r[0], 0), r[1]);
            due("x " + r[0] + ", denominator", between.worthOf(0, 0, 0, 0, 0, (int) r[0], 1), r[1]);
        }
        due("LEAST", between.worthOf(7, 20, 0, 0, 0, 1, 0), -500);
        due("MOST", between.worthOf(7, 20, 0, 0, 0, 3, 0), -1500);
        between.shut(7, NOBODY);
        due("SHUT: 0", between.worthOf(7, 20, 0, 0, 0, 0, 0), 0);
        due("SHUT: 1", between.worthOf(7, 20, 0, 0, 0, 1, 0), STATE_WORTH);
        due("SHUT: 5", between.worthOf(7, 20, 0, 0, 0, 5, 0), BAD_WORTH);
        due("BAD comes first", between.worthOf(7, 20, 0, 0, 0, 1, 2), BAD_WORTH);
    }

    @Sentence(promise = 15, words = "WORTH of THE PAGE to THE BUYER (who 0), THE SELLER (1) from the first DAY on: "
        + "0 the numerator, 1 the denominator. BAD -9000000000000000001.")
    static void wholeIsBad() {
        TakeOrPay x = new TakeOrPay();
        boundsFrom0("whole", a -> x.whole(a[0], a[1]), is(0, 0), is(1, 1), BAD_WORTH);
        due("the smallest page: 1 DAY, 1 unit", told(ONE + "quantity 1;paid 100;day 0 1;base 1;price 1 1;cost 0;").whole(1, 0), 100);
        TakeOrPay most = told("years 4;days 5;quantity 1;paid 0;day 4 4;base 60;surcharge 20;cost 60;price 1 1;chance 1 0 4 0;");
        due("the dearest 20 DAYS, buyer", most.whole(0, 0), -80 * 5900 - 76 * 2000);
        due("the dearest 20 DAYS, seller", most.whole(1, 0), 76 * 2000);
        TakeOrPay shut = told("years 4;days 5;quantity 16;paid 100;base 60;");
        for (int day = 0; day < 20; day++) {
            shut.shut(day, SELLER);
        }
        due("all DAYS SHUT, none FREE: 48 SHORT at 60", shut.whole(0, 0), -288000);
        due("all DAYS SHUT, seller", shut.whole(1, 0), 288000);
    }

    @Sentence(promise = 16, words = "Units, expected, that are TAKEN (what 0, 1), paid SHORT (2, 3), made up (4, 5) by THE BEST "
        + "from the first DAY on: numerators, denominators. BAD.")
    static void unitsIsBad() {
        TakeOrPay x = new TakeOrPay();
        bounds("units", a -> x.units(a[0]), is(0), 0, 0, 5, BAD);
        TakeOrPay none = told("paid 0;day 0 0;");
        for (int what = 0; what < 6; what++) {
            due("none of all", none.units(what), what % 2);
        }
        TakeOrPay most = told("years 4;days 5;day 4 4;paid 0;");
        due("4 on each of 20 DAYS", most.units(0), 80);
        for (int day = 0; day < 20; day++) {
            most.shut(day, NOBODY);
        }
        due("all SHUT: none", most.units(0), 0);
        due("nothing is PAID", most.units(2), 0);
        TakeOrPay shorts = told("years 2;days 1;quantity 16;paid 100;day 4 4;made first;");
        due("12 less 4, then 12: the 4 are made up", shorts.units(2), 20);
        due("made up", shorts.units(4), 4);
    }

    @Sentence(promise = 17, words = "WITHOUT a WORD (0 to 7): what it makes to THE BUYER's (who 0), THE SELLER's (1) WORTH "
        + "(that WITHOUT it, less that with it): 0 the numerator, 1 the denominator. BAD -9000000000000000001.")
    static void withoutIsBad() {
        TakeOrPay x = new TakeOrPay();
        boundsFrom0("without", a -> x.without(a[0], a[1], a[2]), is(0, 0, 0), is(7, 1, 1), BAD_WORTH);
        TakeOrPay day = told(ONE + "paid 0;day 4 4;start 0;cost 0;");
        due("WITHOUT it: 0; with it: -2000", day.without(7, 0, 0), 2000);
        due("WITHOUT it: 0; with it: 8000", day.without(7, 1, 0), -8000);
        due("what was asked WITHOUT leaves THE PAGE", day.told(3), 4);
        due("and its WORTH", day.whole(0, 0), -2000);
    }

    @Sentence(promise = 18, words = "Over COUNTED 0 to 20 of a DAY with MADE, CREDIT, a STATE: how many have neither LEAST nor MOST as THE BEST (what 0)")
    static void neither() {
        // At 15 for 20 as many are taken as DUE 12 has more; MADE cost nothing.
        TakeOrPay x = told(ONE + "quantity 16;paid 100;made last;day 0 4;");
        due("COUNTED 9, 10, 11", x.jumps(0, 0, 0, 0, 0), 3);
        due("MADE 2: 11 to 20", x.jumps(0, 2, 0, 0, 0), 10);
        due("MADE 12: 4 always", x.jumps(0, 12, 0, 0, 0), 0);
        due("MADE 1, CREDIT 8: 4 are DUE: 2 to 20", x.jumps(0, 1, 8, 0, 0), 19);
        due("MADE 3, CREDIT 8: 4 to 20", x.jumps(0, 3, 8, 0, 0), 17);
        due("30 next door: MOST always", x.jumps(0, 0, 0, 2, 0), 0);
        due("LEAST is MOST", told(ONE + "day 2 2;").jumps(0, 0, 0, 0, 0), 0);
        due("nothing between 3 and 4", told(ONE + "day 3 4;").jumps(0, 0, 0, 0, 0), 0);
        TakeOrPay all = told(ONE + "paid 0;made first;day 0 4;");
        due("MADE 1: 1 at every COUNTED, 0 and 20, too", all.jumps(0, 1, 0, 0, 0), 21);
    }

    @Sentence(promise = 18, words = "the least COUNTED for which THE BEST is another one than for COUNTED 0 (1; NONE)")
    static void anotherOne() {
        TakeOrPay x = told(ONE + "quantity 16;paid 100;made last;day 0 4;");
        due("12 are DUE", x.jumps(0, 0, 0, 0, 1), 9);
        due("4 are DUE", x.jumps(0, 0, 8, 0, 1), 1);
        due("30 next door: 4 always", x.jumps(0, 0, 0, 2, 1), NONE);
        due("LEAST is MOST", told(ONE + "day 4 4;").jumps(0, 0, 0, 0, 1), NONE);
        due("nothing is PAID: 0 always", told(ONE + "paid 0;").jumps(0, 0, 0, 0, 1), NONE);
        TakeOrPay carried = told("years 2;days 1;quantity 12;paid 100;day 0 1;carried;");
        due("one above QUANTITY saves one SHORT; at 20 there is no more", carried.jumps(0, 0, 0, 0, 1), 20);
    }

    @Sentence(promise = 18, words = "BAD; STATE: that DAY is SHUT.")
    static void jumpsIsRefused() {
        TakeOrPay x = new TakeOrPay();
        boundsFrom0("jumps", a -> x.jumps(a[0], a[1], a[2], a[3], a[4]), is(0, 0, 0, 0, 0), is(7, 12, 8, 2, 1), BAD);
        for (int who = 0; who < 3; who++) {
            x.shut(7, who);
            due("SHUT by " + who, x.jumps(7, 0, 0, 0, 0), STATE);
            due("SHUT by " + who, x.jumps(7, 12, 8, 2, 1), STATE);
            due("the DAY ahead is not", x.jumps(6, 0, 0, 2, 0), 0);
            due("BAD comes first", x.jumps(7, 0, 0, 0, 2), BAD);
            due("BAD comes first", x.jumps(7, 0, 9, 0, 0), BAD);
        }
        x.shut(7, NONE);
        due("open again", x.jumps(7, 0, 0, 2, 0), 0);
    }

    @Sentence(promise = 19, words = "OFFERS that leave THE BUYER no worse than THE PAGE: how many (what 0)")
    static void noWorse() {
        TakeOrPay one = told("years 1;days 2;quantity 16;paid 0;base 1;day 0 1;start 2;");
        one.shut(1, NOBODY);
        due("as it is alone: at BASE 2 less is won, of PAID 20 two are SHORT", one.offers(0), 1);
        due("PAID", one.offers(1), 0);
        due("BASE", one.offers(2), 1);
        due("by nothing", one.offers(3), 0);
        due("by 1", one.offers(4), 1);
        due("all nine are just as good", allAlike(50, 20).offers(0), 9);
        // At 15 the buyer loses BASE less 15 for each of TOP.
        TakeOrPay x = told(ONE + "quantity 10;paid 20;day 0 4;start 0;");
        due("PAID 0 three times, PAID 20 with 19 and 20", x.offers(0), 5);
        TakeOrPay equal = told(ONE + "quantity 10;paid 40;day 4 4;base 16;start 0;");
        due("at 15 and 16 with 20, 40; with 60, 2 are SHORT", equal.offers(0), 4);
    }

    @Sentence(promise = 19, words = "that with the most WORTH to THE SELLER, of several the first: PAID (1), BASE (2), "
        + "by how much that is more: numerator (3), denominator (4). (In the order of PAID, then BASE.)")
    static void theFirstOfTheMost() {
        due("all alike: the least PAID", allAlike(50, 20).offers(1), 30);
        due("and of it the least BASE", allAlike(50, 20).offers(2), 19);
        due("nothing more", allAlike(50, 20).offers(3), 0);
        due("by 1", allAlike(50, 20).offers(4), 1);
        TakeOrPay same = told(ONE + "quantity 10;paid 20;day 4 4;base 16;start 0;");
        due("BASE 16 with PAID 0, 20, 40 alike: the first", same.offers(1), 0);
        due("BASE 16", same.offers(2), 16);
        TakeOrPay more = told(ONE + "quantity 10;paid 10;day 0 4;base 1;price 0 1;cost 0;start 0;");
        due("the last PAID: 3 in place of 1", more.offers(1), 30);
        due("BASE", more.offers(2), 1);
        due("200 more", more.offers(3), 200);
        due("by 1", more.offers(4), 1);
    }

    @Sentence(promise = 19, words = "BAD -9000000000000000001.")
    static void offersIsBad() {
        TakeOrPay x = new TakeOrPay();
        bounds("offers", a -> x.offers(a[0]), is(0), 0, 0, 4, BAD_WORTH);
        due("what was offered leaves THE PAGE", 100 * x.told(5) + x.told(6), 8020);
    }
}
