/** Boundary cases of one taking and of a year's end: the terms, and promises 10 and 11. */
public final class BoundaryDayTest extends Boundary {
    public static void main(String[] args) throws IllegalAccessException {
        runAll(BoundaryDayTest.class);
    }

    @Sentence(words = "In a YEAR: COUNTED (0 at first; 20 at most: what would be more is 20)")
    static void counted() {
        TakeOrPay x = told("years 2;days 5;surcharge 1;");
        dues("takes", a -> x.takes(0, a[0], 0, 0, 0, a[1], 0),
            is(0, 0, 0), is(0, 3, 3), is(17, 3, 20), is(18, 3, 20), is(19, 1, 20), is(19, 2, 20), is(20, 0, 20), is(20, 3, 20));
        due("those above 20 are paid for", x.takes(0, 20, 0, 0, 0, 3, 2), 6300);
        due("those above 20 are paid for", x.takes(0, 19, 0, 0, 0, 3, 2), 6300);
        due("0 at first", x.row(2), 0);
        days(x, 0, 9, 0, 9);
        due("18", x.row(2), 18);
        days(x, 0, 2);
        due("20", x.row(2), 20);
        days(x, 0, 1);
        due("21 is 20", x.row(2), 20);
        days(x, 0, 9);
        due("0 at first in the next YEAR", x.row(2), 0);
    }

    @Sentence(words = "MADE (units open to be made up: from the YEAR ahead; 0 in the first)")
    static void made() {
        TakeOrPay x = told("years 3;days 1;quantity 16;paid 100;made first;day 0 4;");
        due("0 in the first", x.row(3), 0);
        days(x, 0, 0);
        due("12 of the YEAR ahead", x.row(3), 12);
        days(x, 0, 4);
        due("4 made up, none COUNTED: 12 again, the other 8 are lost", x.row(3), 12);
        days(x, 0, 9);
        due("the last YEAR's", x.row(3), 3);
        due("none beyond 12", x.takes(0, 0, 13, 0, 0, 0, 1), BAD_MONEY);
        TakeOrPay best = told("years 2;days 3;quantity 16;paid 100;day 4 4;made first;");
        for (int day = 0; day < 3; day++) {
            best.shut(day, NOBODY);
        }
        due("THE BEST makes up all 12", best.units(4), 12);
        due("12 are SHORT twice", best.units(2), 24);
    }

    @Sentence(words = "CREDIT (0 to 8: from the YEAR ahead).")
    static void credit() {
        TakeOrPay x = told("years 4;days 1;quantity 1;paid 100;carried;");
        due("0 in the first", x.row(4), 0);
        days(x, 0, 1);
        due("QUANTITY: 0", x.row(4), 0);
        days(x, 0, 8);
        due("7 above", x.row(4), 7);
        days(x, 0, 9);
        due("8 above", x.row(4), 8);
        TakeOrPay more = told("years 2;days 2;quantity 1;paid 100;carried;");
        days(more, 0, 9, 0, 9);
        due("17 above", more.row(4), 8);
        TakeOrPay best = told("years 2;days 5;quantity 12;paid 100;day 4 4;carried;");
        for (int day = 5; day < 10; day++) {
            best.shut(day, NOBODY);
        }
        due("THE BEST has 8 of 12 by it", best.units(2), 4);
        due("and pays for 4", best.whole(1, 0), 20 * 1000 + 4 * 2000);
    }

    @Sentence(words = "DUE: the YEAR's TOP less CREDIT, 0 at least.")
    static void dueOfAYear() {
        TakeOrPay x = told("made last;day 0 4;");
        dues("ends", a -> x.ends(0, 0, a[0], 0), is(0, 6), is(5, 1), is(6, 0), is(7, 0), is(8, 0));
        dues("what is paid for it", a -> x.ends(0, 0, a[0], 1), is(5, 2000), is(6, 0), is(8, 0));
        dues("COUNTED of 4 with MADE 12", a -> x.takes(0, 0, 12, a[0], 0, 4, 0), is(0, 4), is(2, 4), is(3, 3), is(5, 1), is(6, 0),
            is(7, 0), is(8, 0));
        x.shut(0, SELLER);
        due("TOP of a YEAR with a day that is not FREE", x.ends(0, 0, 5, 0), 1);
        TakeOrPay free = told("free seller;");
        for (int day = 0; day < 4; day++) {
            free.shut(day, SELLER);
        }
        due("TOP 0", free.ends(0, 0, 0, 0), 0);
        due("TOP 0 less 8", free.ends(0, 0, 8, 0), 0);
    }

    @Sentence(words = "TAKING x on a DAY that is not SHUT (LEAST to MOST; SHUT: 0 alone)")
    static void mayBe() {
        int[][] ranges = {{0, 0}, {0, 3}, {0, 4}, {1, 3}, {2, 2}, {4, 4}};
        for (int[] r : ranges) {
            TakeOrPay x = told("day " + r[0] + " " + r[1] + ";");
            for (int taken = 0; taken <= 4; taken++) {
                boolean may = taken >= r[0] && taken <= r[1];
                due(taken + " of " + r[0] + " to " + r[1], x.takes(0, 0, 0, 0, 0, taken, 0), may ? taken : STATE_MONEY);
            }
            for (int who = 0; who < 3; who++) {
                x.shut(0, who);
                for (int taken = 0; taken <= 4; taken++) {
                    due(taken + " of a SHUT day", x.takes(0, 5, 0, 0, 0, taken, 0), taken == 0 ? 5 : STATE_MONEY);
                }
            }
            x.shut(0, NONE);
            due("LEAST of a day that is open again", x.takes(0, 0, 0, 0, 0, r[0], 0), r[0]);
        }
    }

    @Sentence(words = "MADE UP first: as many of x as MADE has are made up, the others COUNTED.")
    static void madeFirst() {
        TakeOrPay x = told("made first;day 0 4;");
        dues("COUNTED of 3", a -> x.takes(0, 1, a[0], 0, 0, 3, 0), is(0, 4), is(1, 3), is(2, 2), is(3, 1), is(4, 1), is(12, 1));
        dues("MADE behind 3", a -> x.takes(0, 1, a[0], 0, 0, 3, 1), is(0, 0), is(1, 0), is(2, 0), is(3, 0), is(4, 1), is(12, 9));
        due("none taken, none made up", x.takes(0, 1, 12, 0, 0, 0, 1), 12);
        due("at 20 they are made up, too", x.takes(0, 20, 2, 0, 0, 3, 1), 0);
        due("20 stays", x.takes(0, 20, 2, 0, 0, 3, 0), 20);
    }

    @Sentence(words = "Last: first as many are COUNTED as DUE has more than COUNTED; then as many made up as MADE has; "
        + "then the others COUNTED.")
    static void madeLast() {
        TakeOrPay x = told("made last;day 0 4;");
        // DUE is 6.
        dues("COUNTED behind 3, MADE 2", a -> x.takes(0, a[0], 2, 0, 0, 3, 0),
            is(0, 3), is(3, 6), is(4, 6), is(5, 6), is(6, 7), is(7, 8), is(20, 20));
        dues("MADE behind 3, MADE 2", a -> x.takes(0, a[0], 2, 0, 0, 3, 1),
            is(0, 2), is(3, 2), is(4, 1), is(5, 0), is(6, 0), is(7, 0), is(20, 0));
        dues("COUNTED behind 3, COUNTED 5", a -> x.takes(0, 5, a[0], 0, 0, 3, 0), is(0, 8), is(1, 7), is(2, 6), is(3, 6), is(12, 6));
        dues("MADE behind 3, COUNTED 5", a -> x.takes(0, 5, a[0], 0, 0, 3, 1), is(0, 0), is(1, 0), is(2, 0), is(3, 1), is(12, 10));
        dues("by CREDIT, COUNTED 0", a -> x.takes(0, 0, 12, a[0], 0, 3, 1), is(3, 12), is(4, 11), is(5, 10), is(6, 9), is(8, 9));
    }

    @Sentence(words = "No: all COUNTED.")
    static void notMadeUp() {
        TakeOrPay x = told("rest 5;day 0 4;");
        due("COUNTED", x.takes(0, 0, 12, 0, 0, 4, 0), 4);
        due("MADE stays", x.takes(0, 0, 12, 0, 0, 4, 1), 12);
        due("what is paid", x.takes(0, 0, 12, 0, 0, 4, 2), 8000);
    }

    @Sentence(words = "PRICE of one that is COUNTED: BASE times (100 less INDEX) and PRICE next door that day times INDEX, summed")
    static void priceOfOne() {
        int[][] rows = {{1, 0, 60, 100}, {60, 0, 1, 6000}, {1, 100, 60, 6000}, {60, 100, 1, 100}, {60, 50, 1, 3050},
            {1, 1, 60, 159}, {60, 99, 60, 6000}};
        for (int[] r : rows) {
            TakeOrPay x = told("base " + r[0] + ";index " + r[1] + ";price 2 " + r[2] + ";");
            due("one", x.takes(0, 0, 0, 0, 2, 1, 2), r[3]);
            due("three", x.takes(0, 0, 0, 0, 2, 3, 2), 3 * r[3]);
            due("none", x.takes(0, 0, 0, 0, 2, 0, 2), 0);
        }
    }

    @Sentence(words = "100 times SURCHARGE more for each that is COUNTED when COUNTED ahead of it is the YEAR's QUANTITY or more.")
    static void surchargeFrom() {
        TakeOrPay x = told("surcharge 4;free nobody;made first;day 0 4;");
        dues("1 of 8", a -> x.takes(0, a[0], 0, 0, 0, 1, 2), is(6, 2000), is(7, 2000), is(8, 2400), is(9, 2400), is(20, 2400));
        dues("4 of 8", a -> x.takes(0, a[0], 0, 0, 0, 4, 2), is(4, 8000), is(5, 8400), is(7, 9200), is(8, 9600), is(19, 9600));
        dues("2 with one made up", a -> x.takes(0, a[0], 1, 0, 0, 2, 2), is(7, 2000), is(8, 2400));
        x.shut(1, NOBODY);
        dues("1 of the YEAR's 6", a -> x.takes(0, a[0], 0, 0, 0, 1, 2), is(5, 2000), is(6, 2400));
        dues("the other YEAR's 8", a -> x.takes(4, a[0], 0, 0, 0, 1, 2), is(7, 2000), is(8, 2400));
        TakeOrPay none = told("years 1;days 1;surcharge 4;free nobody;");
        none.shut(0, NOBODY);
        days(none, 0, 1);
        due("QUANTITY 0: the first has it", none.row(5), 2400);
    }

    @Sentence(words = "One that is made up: 100 times REST.")
    static void priceOfOneMadeUp() {
        due("REST 0", told("made first;index 50;").takes(0, 0, 3, 0, 2, 3, 2), 0);
        due("REST 1", told("made first;rest 1;index 50;").takes(0, 0, 3, 0, 2, 3, 2), 300);
        due("REST 60", told("made first;rest 60;").takes(0, 0, 3, 0, 0, 3, 2), 18000);
        due("no SURCHARGE", told("made first;rest 60;surcharge 20;").takes(0, 20, 3, 0, 0, 3, 2), 18000);
        due("last, above DUE", told("made last;rest 7;surcharge 20;").takes(0, 8, 3, 0, 0, 3, 2), 2100);
        due("GAIN", told("made first;rest 60;").takes(0, 0, 3, 0, 0, 3, 3), 4500 - 18000);
    }

    @Sentence(words = "A YEAR's END: SHORT: DUE less COUNTED, 0 at least: BASE times 100 for each")
    static void shortOnes() {
        TakeOrPay x = told("base 60;quantity 16;paid 100;index 100;");
        dues("SHORT of 12", a -> x.ends(0, a[0], 0, 0), is(0, 12), is(11, 1), is(12, 0), is(13, 0), is(20, 0));
        dues("with CREDIT", a -> x.ends(1, 4, a[0], 0), is(0, 8), is(7, 1), is(8, 0));
        dues("what is paid", a -> x.ends(0, a[0], 0, 1), is(0, 72000), is(11, 6000), is(12, 0), is(20, 0));
        due("nothing is PAID", told("paid 0;").ends(0, 0, 0, 0), 0);
        due("BASE 1", told("base 1;").ends(0, 5, 0, 1), 100);
    }

    @Sentence(words = "these are MADE of the next YEAR (MADE UP told; else lost, as MADE that is not made up).")
    static void madeOfTheNext() {
        due("first", told("made first;").ends(0, 0, 0, 2), 6);
        due("last", told("made last;").ends(0, 5, 0, 2), 1);
        due("none SHORT", told("made last;").ends(0, 6, 0, 2), 0);
        due("12 at most", told("made last;quantity 16;paid 100;").ends(0, 0, 0, 2), 12);
        due("not told: lost", told("rest 5;").ends(0, 0, 0, 2), 0);
        TakeOrPay x = told("years 3;days 1;quantity 4;paid 100;made last;day 0 4;");
        days(x, 0, 0);
        due("4 SHORT", x.row(3), 4);
        days(x, 0, 4);
        due("4 COUNTED, none SHORT; the 4 that were not made up are lost", x.row(3), 0);
        TakeOrPay no = told("years 2;days 1;quantity 4;paid 100;");
        days(no, 0, 0);
        due("4 SHORT, lost", no.row(3), 0);
    }

    @Sentence(words = "CREDIT of the next YEAR: CARRIED: COUNTED less the YEAR's QUANTITY, 0 at least, 8 at most; else 0.")
    static void creditOfTheNext() {
        TakeOrPay x = told("carried;free buyer;");
        dues("CREDIT", a -> x.ends(0, a[0], 0, 3), is(0, 0), is(7, 0), is(8, 0), is(9, 1), is(15, 7), is(16, 8), is(17, 8), is(20, 8));
        dues("whatever CREDIT was", a -> x.ends(0, 9, a[0], 3), is(0, 1), is(8, 1));
        x.shut(0, BUYER);
        dues("the YEAR's QUANTITY is 6", a -> x.ends(0, a[0], 0, 3), is(6, 0), is(7, 1), is(14, 8), is(15, 8));
        dues("the other YEAR's 8", a -> x.ends(1, a[0], 0, 3), is(8, 0), is(9, 1));
        dues("not CARRIED", a -> new TakeOrPay().ends(0, a[0], 0, 3), is(0, 0), is(9, 0), is(20, 0));
        due("16 of 20", told("carried;quantity 16;").ends(0, 20, 0, 3), 4);
    }

    @Sentence(promise = 10, words = "TAKING x on a DAY with COUNTED (0 to 20), MADE (0 to 12), CREDIT (0 to 8), the STATE s next door: "
        + "0 COUNTED behind it, 1 MADE behind it, 2 what is paid, 3 GAIN.")
    static void takesBounds() {
        TakeOrPay x = told("day 0 4;");
        boundsFrom0("takes", a -> x.takes(a[0], a[1], a[2], a[3], a[4], a[5], a[6]), is(0, 0, 0, 0, 0, 0, 0),
            is(7, 20, 12, 8, 2, 4, 3), BAD_MONEY);
        TakeOrPay last = told("years 4;days 5;made first;rest 1;");
        due("COUNTED, all at their most", last.takes(19, 20, 12, 8, 2, 3, 0), 20);
        due("MADE, all at their most", last.takes(19, 20, 12, 8, 2, 3, 1), 9);
        due("paid, all at their most", last.takes(19, 20, 12, 8, 2, 3, 2), 300);
        due("GAIN, all at their most", last.takes(19, 20, 12, 8, 2, 3, 3), 8700);
        due("the last DAY of a YEAR is not its END", last.takes(4, 2, 3, 0, 0, 2, 0), 2);
        due("nor does MADE begin anew", last.takes(4, 2, 3, 0, 0, 2, 1), 1);
        due("nor is SHORT paid", last.takes(4, 2, 3, 0, 0, 2, 2), 200);
    }

    @Sentence(promise = 10, words = "BAD -1000000: also x above 4; STATE -1000002: it MAY NOT be.")
    static void takesRefused() {
        TakeOrPay x = told("day 1 3;");
        dues("x", a -> x.takes(0, 0, 0, 0, 0, a[0], 0), is(LOW, BAD_MONEY), is(-1, BAD_MONEY), is(0, STATE_MONEY), is(1, 1), is(3, 3),
            is(4, STATE_MONEY), is(5, BAD_MONEY), is(9, BAD_MONEY), is(HIGH, BAD_MONEY));
        x.shut(0, BUYER);
        dues("x, SHUT", a -> x.takes(0, 0, 0, 0, 0, a[0], 0), is(-1, BAD_MONEY), is(0, 0), is(1, STATE_MONEY), is(4, STATE_MONEY),
            is(5, BAD_MONEY));
        due("x 4 of MOST 4", told("day 4 4;").takes(0, 0, 0, 0, 0, 4, 0), 4);
        for (int what = 0; what < 4; what++) {
            due("whatever is asked", x.takes(0, 0, 0, 0, 0, 1, what), STATE_MONEY);
        }
        due("BAD comes first", x.takes(0, 0, 0, 0, 3, 1, 0), BAD_MONEY);
    }

    @Sentence(promise = 11, words = "A YEAR's END with COUNTED, CREDIT: 0 SHORT, 1 what is paid for it, 2 MADE of the next YEAR, 3 its CREDIT.")
    static void endsAtTheEdges() {
        TakeOrPay x = told("years 4;days 1;quantity 16;paid 100;base 60;made first;carried;");
        int[][] most = {{12, 72000, 12, 0}, {0, 0, 0, 4}};
        for (int y = 0; y < 4; y++) {
            for (int what = 0; what < 4; what++) {
                due("COUNTED 0, CREDIT 0", x.ends(y, 0, 0, what), most[0][what]);
                due("COUNTED 20, CREDIT 8", x.ends(y, 20, 8, what), most[1][what]);
            }
        }
    }

    @Sentence(promise = 11, words = "3 its CREDIT. BAD.")
    static void endsIsBad() {
        TakeOrPay x = told("years 3;");
        boundsFrom0("ends", a -> x.ends(a[0], a[1], a[2], a[3]), is(0, 0, 0, 0), is(2, 20, 8, 3), BAD);
    }
}
