/**
 * Each promise of the document by itself: what it does with ordinary numbers, at the edges that
 * it names, and with wrong ones. What is due was worked out by hand from the document.
 */
public final class PromisesTest {
    private static final Check CHECK = new Check();
    private static final int BAD = -1;
    private static final int STATE = -2;
    private static final int FULL = -3;
    private static final int NONE = -4;
    private static final int LOW = Integer.MIN_VALUE;
    private static final int HIGH = Integer.MAX_VALUE;
    private static final long BAD_WORTH = -9000000000000000001L;
    private static final long STATE_WORTH = -9000000000000000002L;

    public static void main(String[] args) {
        newObject();
        feed();
        end();
        page();
        tokens();
        faults();
        bounds();
        fault();
        told();
        shut();
        year();
        whose();
        takes();
        takesMadeUp();
        ends();
        best();
        bestBesideCredit();
        worth();
        worthOf();
        whole();
        units();
        without();
        jumps();
        offers();
        day();
        back();
        row();
        rowOf();
        knew();
        came();
        draw();
        sheet();
        lay();
        read();
        torn();
        count();
        pageChanges();
        rowChanges();
        CHECK.finish();
    }

    private static void due(String call, long got, long want) {
        CHECK.due(call, got, want);
    }

    private static void newObject() {
        CHECK.at("promise 1");
        TakeOrPay x = new TakeOrPay();
        int[] first = {2, 4, 8, 0, 3, 80, 20, 0, 0, 0, 0, 0, 0, 0, 10, 1};
        for (int i = 0; i < first.length; i++) {
            due("told " + i, x.told(i), first[i]);
        }
        due("fault", x.fault(), 0);
        due("torn", x.torn(), 0);
        due("days", x.count(0), 8);
        due("shut days", x.count(1), 0);
        due("days of the row", x.count(2), 0);
        due("bytes", x.count(3), 0);
        due("sheet 0", x.count(4), NONE);
        for (int k = 0; k < 4; k++) {
            due("sheet " + k, x.lay(k, 0, 0), -11);
        }
        due("BAD", TakeOrPay.BAD, -1);
        due("STATE", TakeOrPay.STATE, -2);
        due("FULL", TakeOrPay.FULL, -3);
        due("NONE", TakeOrPay.NONE, -4);
        TakeOrPay other = new TakeOrPay();
        other.shut(0, 1);
        due("another object's days", x.count(1), 0);
    }

    private static void feed() {
        CHECK.at("promise 2");
        TakeOrPay x = new TakeOrPay();
        for (int i = 1; i <= 40; i++) {
            due("feed", x.feed(0x2020202020202020L), 8 * i);
        }
        due("beyond 320", x.feed(0x2020202020202020L), FULL);
        due("as before", x.count(3), 320);
        x.end(313);
        due("beyond 320 by one", x.feed(0L), FULL);
        x.end(312);
        due("to 320", x.feed(0x2020202020202020L), 320);
        due("all blanks", x.page(), 0);
        due("the highest first", x.feed(0x6261736520333b20L), 8);
        due("base 3; ", x.page(), 1);
        due("BASE", x.told(6), 3);
    }

    private static void end() {
        CHECK.at("promise 3");
        TakeOrPay x = new TakeOrPay();
        due("end 0 of 0", x.end(0), 0);
        due("above", x.end(1), BAD);
        x.feed(Check.eight("base 12;", 0));
        due("above", x.end(9), BAD);
        due("below 0", x.end(-1), BAD);
        due("lowest", x.end(LOW), BAD);
        due("highest", x.end(HIGH), BAD);
        due("all", x.end(8), 8);
        due("fewer", x.end(6), 8);
        due("had", x.end(6), 6);
        x.feed(Check.eight(";       ", 0));
        due("page", x.page(), 1);
        due("BASE 1", x.told(6), 1);
        x.feed(0);
        due("none", x.end(0), 8);
        due("bytes", x.count(3), 0);
    }

    private static void page() {
        CHECK.at("promise 4");
        TakeOrPay x = new TakeOrPay();
        String all = "years 3;days 5;quantity 15;day 1 4;paid 70;base 33;index 25;surcharge 7;made last;"
            + "rest 9;carried;notice;free nobody;free buyer;cost 21;price 0 1;price 1 59;price 2 60;"
            + "chance 0 0 4 0;chance 1 3 0 1;chance 2 1 1 2;start 2;";
        Check.feed(x, all);
        due("lines", x.page(), 22);
        due("the tape is empty", x.count(3), 0);
        int[] told = {3, 5, 15, 1, 4, 70, 33, 25, 7, 2, 9, 1, 1, 5, 21, 2};
        for (int i = 0; i < told.length; i++) {
            due("told " + i, x.told(i), told[i]);
        }
        int[] next = {1, 59, 60};
        int[] chances = {0, 4, 0, 3, 0, 1, 1, 1, 2};
        for (int i = 0; i < 3; i++) {
            due("price " + i, x.told(20 + i), next[i]);
        }
        for (int i = 0; i < 9; i++) {
            due("chance " + i, x.told(30 + i), chances[i]);
        }
        x.shut(3, 1);
        x.day(0, 1);
        x.sheet(0, 0, 5);
        Check.feed(x, "base 5;base 6;");
        due("told already", x.page(), -17);
        due("the tape is empty by a fault, too", x.count(3), 0);
        due("what was told stays", x.told(6), 33);
        due("shut days stay", x.count(1), 1);
        due("the row stays", x.count(2), 1);
        Check.feed(x, "base 5;");
        due("one line", x.page(), 1);
        due("what it tells", x.told(6), 5);
        due("what no line tells is as at first", x.told(0), 2);
        due("so are prices", x.told(22), 30);
        due("so are chances", x.told(30), 2);
        due("so is free", x.told(13), 0);
        due("no day is shut", x.count(1), 0);
        due("nor by whom", x.shut(3, NONE), NONE);
        due("the row is empty", x.count(2), 0);
        due("sheets stay", x.count(4), 5);
        x.shut(0, 0);
        x.day(1, 1);
        due("an empty text is a text", x.page(), 0);
        due("BASE as at first", x.told(6), 20);
        due("no day is shut", x.count(1), 0);
        due("the row is empty", x.count(2), 0);
    }

    private static void refused(String text, int fault, int place) {
        CHECK.refused(text, fault, place);
    }

    private static void taken(String text, int lines, int what, int told) {
        CHECK.taken(text, lines, what, told);
    }

    private static void tokens() {
        CHECK.at("promise 4, tokens");
        taken("   ", 0, 6, 20);
        taken("base7;", 1, 6, 7);
        taken("  base   007  ;  ", 1, 6, 7);
        taken("price 0 9;price1 8;price 2 7;", 3, 21, 8);
        taken("chance2 0 0 4;carried;day0 0;", 3, 4, 0);
        taken("made  first ;", 1, 9, 1);
        taken("free buyer;", 1, 13, 4);
        taken("carried;", 1, 11, 1);
        taken("notice;", 1, 12, 1);
        refused("madefirst;", 1, 0);
        refused("base 5\t;", 1, 6);
        refused("base 5\n;", 1, 6);
        refused("Base 5;", 1, 0);
        refused("base 5;\u00e9", 1, 7);
        refused("base 5;\0", 1, 7);
        refused("bas 5;", 1, 0);
        refused("bases 5;", 1, 0);
        refused(" base 5; basebasebasebase 6;", 1, 9);
        refused("base 0005;", 1, 5);
        refused("base -5;", 1, 5);
        refused("base:5;", 1, 4);
        refused("base `;", 1, 5);
        refused("base {;", 1, 5);
        refused("base /;", 1, 5);
        refused("1000;", 1, 0);
        refused("basez 5;", 1, 0);
        refused("made nobody;", 2, 5);
        bytesCutOff("base 5; ", 3, 1, 0);
        bytesCutOff("base 12;", 6, 2, 6);
        bytesCutOff("base 5; ", 6, 2, 6);
    }

    /** What stood behind the end once is no part of the text. */
    private static void bytesCutOff(String text, int n, int fault, int place) {
        TakeOrPay x = new TakeOrPay();
        x.feed(Check.eight(text, 0));
        x.end(n);
        due("page of '" + text + "' to " + n, x.page(), -10 - place);
        due("fault of '" + text + "' to " + n, x.fault(), fault);
    }

    private static void faults() {
        CHECK.at("promise 4, faults");
        refused("base", 2, 4);
        refused("base  ", 2, 6);
        refused("base 5  ", 2, 8);
        refused("carried", 2, 7);
        refused(";", 2, 0);
        refused("base 5;;", 2, 7);
        refused("5;", 2, 0);
        refused("first;", 2, 0);
        refused("base ;", 2, 5);
        refused("base base;", 2, 5);
        refused("base 5 6;", 2, 7);
        refused("base 5 base 6;", 2, 7);
        refused("day 1;", 2, 5);
        refused("day 1 2 3;", 2, 8);
        refused("price 1;", 2, 7);
        refused("price 1 2 3;", 2, 10);
        refused("chance 0 1 1;", 2, 12);
        refused("chance 0 1 1 2 0;", 2, 15);
        refused("made 1;", 2, 5);
        refused("made seller;", 2, 5);
        refused("made carried;", 2, 5);
        refused("made first last;", 2, 11);
        refused("free;", 2, 4);
        refused("free last;", 2, 5);
        refused("free start;", 2, 5);
        refused("free 1;", 2, 5);
        refused("free seller buyer;", 2, 12);
        refused("carried 1;", 2, 8);
        refused("notice notice;", 2, 7);
        refused("made who;", 1, 5);
        refused("base 0 $", 3, 5);
        refused("base 61 wrong", 3, 5);
        refused("base 5;base $", 4, 7);
        refused("notice;notice $", 4, 7);
        refused("years 1;years 9;", 4, 8);
        refused("days 1;days 9;", 4, 7);
        refused("quantity 1;quantity 1;", 4, 11);
        refused("day 1 1;day 1 1;", 4, 8);
        refused("paid 1;paid 1;", 4, 7);
        refused("index 1;index 1;", 4, 8);
        refused("surcharge 1;surcharge 1;", 4, 12);
        refused("rest 1;rest 1;", 4, 7);
        refused("cost 1;cost 1;", 4, 7);
        refused("start 1;start 1;", 4, 8);
        refused("made last;made first;", 4, 10);
        refused("price 1 5;price 2 5;price 1 6;", 4, 26);
        refused("chance 1 4 0 0;chance 1 4 0 0;", 4, 22);
        refused("free buyer;free nobody;free buyer;", 4, 28);
        refused("price 0 5;price 3 5;", 3, 16);
    }

    private static void oneNumber(String name, int low, int high, int what) {
        taken(name + " " + low + ";", 1, what, low);
        taken(name + " " + high + ";", 1, what, high);
        refused(name + " " + (high + 1) + ";", 3, name.length() + 1);
        if (low > 0) {
            refused(name + " " + (low - 1) + ";", 3, name.length() + 1);
        }
        refused(name + " 999;", 3, name.length() + 1);
    }

    private static void bounds() {
        CHECK.at("promise 4, bounds");
        oneNumber("years", 1, 4, 0);
        oneNumber("days", 1, 5, 1);
        oneNumber("quantity", 1, 16, 2);
        oneNumber("paid", 0, 100, 5);
        oneNumber("base", 1, 60, 6);
        oneNumber("index", 0, 100, 7);
        oneNumber("surcharge", 0, 20, 8);
        oneNumber("rest", 0, 60, 10);
        oneNumber("cost", 0, 60, 14);
        oneNumber("start", 0, 2, 15);
        taken("day 0 4;", 1, 4, 4);
        taken("day 4 4;", 1, 3, 4);
        refused("day 5 4;", 3, 4);
        refused("day 4 3;", 3, 6);
        refused("day 0 5;", 3, 6);
        taken("price 2 60;", 1, 22, 60);
        taken("price 0 1;", 1, 20, 1);
        refused("price 2 61;", 3, 8);
        refused("price 2 0;", 3, 8);
        refused("price 3 9;", 3, 6);
        taken("chance 2 0 0 4;", 1, 38, 4);
        taken("chance 0 4 0 0;", 1, 30, 4);
        refused("chance 3 4 0 0;", 3, 7);
        refused("chance 0 5 0 0;", 3, 9);
        refused("chance 0 0 5 0;", 3, 11);
        refused("chance 0 0 0 5;", 3, 13);
        refused("chance 0 0 0 3;", 3, 13);
        refused("chance 0 4 4 0;", 3, 13);
        refused("chance 0 1 2 2;", 3, 13);
    }

    private static void fault() {
        CHECK.at("promise 5");
        TakeOrPay x = new TakeOrPay();
        due("at first", x.fault(), 0);
        Check.feed(x, "base 0;");
        x.page();
        due("latest", x.fault(), 3);
        due("asked again", x.fault(), 3);
        x.feed(0);
        due("feed does not change it", x.fault(), 3);
        x.page();
        due("the next one", x.fault(), 1);
        x.page();
        due("none", x.fault(), 0);
    }

    private static void told() {
        CHECK.at("promise 6");
        TakeOrPay x = Check.told("free seller;made first;chance 1 0 1 3;price 1 44;");
        due("FREE", x.told(13), 2);
        due("MADE UP", x.told(9), 1);
        int[] chances = {2, 1, 1, 0, 1, 3, 1, 1, 2};
        for (int i = 0; i < 9; i++) {
            due("chance " + i, x.told(30 + i), chances[i]);
        }
        due("PRICE", x.told(21), 44);
        int[] wrong = {-1, 16, 17, 18, 19, 23, 24, 29, 39, 40, LOW, HIGH};
        for (int what : wrong) {
            due("told " + what, x.told(what), BAD);
        }
    }

    private static void shut() {
        CHECK.at("promise 7");
        TakeOrPay x = Check.told("years 2;days 3;");
        due("it was open", x.shut(5, 2), NONE);
        due("it was the buyer's", x.shut(5, 0), 2);
        due("it was nobody's", x.shut(5, 1), 0);
        due("the same again", x.shut(5, 1), 1);
        due("it was the seller's", x.shut(5, NONE), 1);
        due("open again", x.shut(5, NONE), NONE);
        due("no such day", x.shut(6, 0), BAD);
        due("no such day", x.shut(-1, 0), BAD);
        due("no such day", x.shut(HIGH, NONE), BAD);
        int[] wrong = {3, -1, -2, -3, -5, LOW, HIGH};
        for (int who : wrong) {
            due("who " + who, x.shut(0, who), BAD);
        }
        due("nothing changed", x.count(1), 0);
        x.day(1, 2);
        x.shut(0, 1);
        due("the row may not be now", x.row(1), 0);
        x.shut(0, NONE);
        due("and may be again", x.row(1), NONE);
    }

    private static void year() {
        CHECK.at("promise 8");
        TakeOrPay x = Check.told("years 2;days 5;quantity 13;paid 77;free seller;");
        due("QUANTITY", x.year(0, 0), 13);
        due("TOP 10.01", x.year(0, 1), 10);
        due("FREE ones", x.year(0, 2), 0);
        x.shut(0, 1);
        x.shut(4, 1);
        x.shut(1, 0);
        x.shut(2, 2);
        x.shut(5, 1);
        due("13 less 26/5", x.year(0, 0), 8);
        due("10 less 20/5", x.year(0, 1), 6);
        due("FREE ones", x.year(0, 2), 2);
        due("13 less 13/5", x.year(1, 0), 11);
        due("10 less 10/5", x.year(1, 1), 8);
        due("FREE ones", x.year(1, 2), 1);
        for (int day = 5; day < 10; day++) {
            x.shut(day, 1);
        }
        due("all shut", x.year(1, 0), 0);
        due("all shut", x.year(1, 1), 0);
        due("all shut", x.year(1, 2), 5);
        TakeOrPay top = Check.told("quantity 16;paid 100;free buyer;");
        due("TOP 12 at most", top.year(0, 1), 12);
        top.shut(0, 2);
        due("of that 12", top.year(0, 1), 9);
        due("of 16", top.year(0, 0), 12);
        due("TOP of paid 0", Check.told("paid 0;").year(0, 1), 0);
        int[] wrong = {-1, 3, LOW, HIGH};
        for (int what : wrong) {
            due("what", x.year(0, what), BAD);
            due("y", x.year(what == 3 ? 2 : what, 0), BAD);
        }
        due("y of the first page", new TakeOrPay().year(2, 1), BAD);
    }

    private static void whose() {
        CHECK.at("promise 9");
        TakeOrPay x = Check.told("years 2;days 4;quantity 8;paid 90;free buyer;free nobody;");
        due("none shut", x.whose(0, 1), 7);
        x.shut(0, 1);
        x.shut(2, 2);
        x.shut(3, 1);
        due("it is", x.year(0, 1), 6);
        due("if the seller's", x.whose(0, 0), 7);
        due("if the buyer's: 7 less 21/4", x.whose(0, 1), 2);
        due("if nobody's", x.whose(0, 2), 2);
        due("another year", x.whose(1, 2), 7);
        TakeOrPay seller = Check.told("free seller;");
        seller.shut(1, 0);
        due("seller free, 6 less 6/4", seller.whose(0, 0), 5);
        due("buyer not", seller.whose(0, 1), 6);
        due("nobody not", seller.whose(0, 2), 6);
        TakeOrPay buyer = Check.told("free buyer;");
        buyer.shut(1, 0);
        due("buyer free", buyer.whose(0, 1), 5);
        due("seller not", buyer.whose(0, 0), 6);
        due("nobody not", buyer.whose(0, 2), 6);
        due("that day is nobody's", buyer.year(0, 1), 6);
        int[] wrong = {-1, 3, LOW, HIGH};
        for (int what : wrong) {
            due("what", x.whose(0, what), BAD);
            due("y", x.whose(what == 3 ? 2 : what, 0), BAD);
        }
    }

    private static void takes() {
        CHECK.at("promise 10");
        TakeOrPay x = Check.told("years 2;days 2;quantity 5;day 1 4;base 10;index 50;surcharge 3;price 2 40;");
        due("COUNTED", x.takes(0, 3, 0, 0, 2, 4, 0), 7);
        due("MADE", x.takes(0, 3, 6, 0, 2, 4, 1), 6);
        due("paid 4 at 2500, 2 above", x.takes(0, 3, 0, 0, 2, 4, 2), 10600);
        due("GAIN", x.takes(0, 3, 0, 0, 2, 4, 3), 5400);
        due("paid at 1250", x.takes(0, 4, 0, 0, 0, 1, 2), 1250);
        due("at QUANTITY", x.takes(0, 5, 0, 0, 0, 1, 2), 1550);
        due("all above", x.takes(3, 20, 12, 8, 1, 2, 2), 3600);
        due("20 at most", x.takes(3, 20, 12, 8, 1, 2, 0), 20);
        due("20 at most", x.takes(3, 18, 12, 8, 1, 4, 0), 20);
        due("below LEAST", x.takes(0, 0, 0, 0, 0, 0, 0), -1000002);
        due("x 5", x.takes(0, 0, 0, 0, 0, 5, 0), -1000000);
        due("x -1", x.takes(0, 0, 0, 0, 0, -1, 0), -1000000);
        due("day", x.takes(4, 0, 0, 0, 0, 1, 0), -1000000);
        due("day", x.takes(-1, 0, 0, 0, 0, 1, 0), -1000000);
        due("counted", x.takes(0, 21, 0, 0, 0, 1, 0), -1000000);
        due("counted", x.takes(0, -1, 0, 0, 0, 1, 0), -1000000);
        due("made", x.takes(0, 0, 13, 0, 0, 1, 0), -1000000);
        due("made", x.takes(0, 0, -1, 0, 0, 1, 0), -1000000);
        due("credit", x.takes(0, 0, 0, 9, 0, 1, 0), -1000000);
        due("credit", x.takes(0, 0, 0, -1, 0, 1, 0), -1000000);
        due("state", x.takes(0, 0, 0, 0, 3, 1, 0), -1000000);
        due("state", x.takes(0, 0, 0, 0, -1, 1, 0), -1000000);
        due("what", x.takes(0, 0, 0, 0, 0, 1, 4), -1000000);
        due("what", x.takes(0, 0, 0, 0, 0, 1, -1), -1000000);
        due("BAD is the first that fits", x.takes(0, 0, 0, 0, 0, 0, 4), -1000000);
        x.shut(1, 2);
        due("SHUT: 0 alone", x.takes(1, 2, 3, 4, 0, 0, 0), 2);
        due("SHUT: 0 alone", x.takes(1, 2, 3, 4, 0, 0, 3), 0);
        due("SHUT: not 1", x.takes(1, 2, 3, 4, 0, 1, 0), -1000002);
        due("above MOST", new TakeOrPay().takes(0, 0, 0, 0, 0, 4, 0), -1000002);
        TakeOrPay free = Check.told("surcharge 5;free nobody;quantity 8;days 4;");
        free.shut(3, 0);
        due("the YEAR's QUANTITY is 6", free.takes(0, 5, 0, 0, 1, 2, 2), 4500);
        due("the other's 8", free.takes(4, 5, 0, 0, 1, 3, 2), 6000);
    }

    private static void takesMadeUp() {
        CHECK.at("promise 10, made up");
        TakeOrPay first = Check.told("made first;rest 3;day 0 4;quantity 10;surcharge 1;");
        due("all made up", first.takes(0, 5, 4, 0, 2, 4, 0), 5);
        due("MADE", first.takes(0, 5, 7, 0, 2, 4, 1), 3);
        due("paid", first.takes(0, 5, 7, 0, 2, 4, 2), 1200);
        due("GAIN", first.takes(0, 5, 7, 0, 2, 4, 3), 10800);
        due("one made up", first.takes(0, 8, 1, 0, 0, 4, 0), 11);
        due("one made up, three counted, one above", first.takes(0, 8, 1, 0, 0, 4, 2), 6400);
        due("none open", first.takes(0, 0, 0, 0, 0, 2, 2), 4000);
        TakeOrPay last = Check.told("made last;rest 3;day 0 4;quantity 10;surcharge 1;");
        due("DUE 8 has 2 more: 2 counted, 2 made up", last.takes(0, 6, 5, 0, 0, 4, 0), 8);
        due("MADE", last.takes(0, 6, 5, 0, 0, 4, 1), 3);
        due("paid", last.takes(0, 6, 5, 0, 0, 4, 2), 4600);
        due("1 counted, 1 made up, 2 counted", last.takes(0, 7, 1, 0, 0, 4, 0), 10);
        due("CREDIT makes DUE less", last.takes(0, 6, 5, 2, 0, 4, 0), 6);
        due("CREDIT makes DUE less", last.takes(0, 6, 5, 2, 0, 4, 1), 1);
        due("CREDIT makes DUE less by one", last.takes(0, 6, 5, 1, 0, 4, 0), 7);
        due("above DUE", last.takes(0, 20, 3, 8, 0, 4, 1), 0);
        due("one above QUANTITY", last.takes(0, 20, 3, 8, 0, 4, 2), 3000);
        TakeOrPay none = Check.told("paid 10;made last;day 0 4;");
        due("DUE 0 at least", none.takes(0, 0, 4, 8, 0, 3, 1), 1);
        due("made up: no", new TakeOrPay().takes(0, 0, 5, 0, 0, 3, 0), 3);
    }

    private static void ends() {
        CHECK.at("promise 11");
        TakeOrPay x = Check.told("quantity 12;paid 100;base 7;made last;carried;");
        due("SHORT", x.ends(0, 5, 3, 0), 4);
        due("paid", x.ends(0, 5, 3, 1), 2800);
        due("MADE", x.ends(0, 5, 3, 2), 4);
        due("CREDIT", x.ends(0, 5, 3, 3), 0);
        due("all short", x.ends(1, 0, 0, 0), 12);
        due("none short", x.ends(0, 9, 3, 0), 0);
        due("none short", x.ends(0, 10, 3, 0), 0);
        due("at QUANTITY", x.ends(0, 12, 0, 3), 0);
        due("above QUANTITY", x.ends(0, 13, 0, 3), 1);
        due("8 at most", x.ends(0, 20, 0, 3), 8);
        due("8 at most", Check.told("quantity 3;carried;").ends(0, 20, 0, 3), 8);
        due("not made up: lost", new TakeOrPay().ends(0, 2, 0, 2), 0);
        due("but paid", new TakeOrPay().ends(0, 2, 0, 1), 8000);
        due("not carried", new TakeOrPay().ends(0, 20, 0, 3), 0);
        due("DUE 0 at least", new TakeOrPay().ends(0, 0, 8, 0), 0);
        due("INDEX is nothing to SHORT", Check.told("index 100;").ends(0, 5, 0, 1), 2000);
        TakeOrPay free = Check.told("free seller;carried;");
        free.shut(0, 1);
        due("TOP 5", free.ends(0, 0, 0, 0), 5);
        due("QUANTITY 6", free.ends(0, 9, 0, 3), 3);
        due("another year", free.ends(1, 9, 0, 3), 1);
        int[] wrong = {-1, 2, LOW, HIGH};
        for (int y : wrong) {
            due("y", x.ends(y, 0, 0, 0), BAD);
        }
        due("counted", x.ends(0, 21, 0, 0), BAD);
        due("counted", x.ends(0, -1, 0, 0), BAD);
        due("credit", x.ends(0, 0, 9, 0), BAD);
        due("credit", x.ends(0, 0, -1, 0), BAD);
        due("what", x.ends(0, 0, 0, 4), BAD);
        due("what", x.ends(0, 0, 0, -1), BAD);
    }

    private static final String LAST_DAY = "years 1;days 1;quantity 10;paid 50;base 20;day 0 4;surcharge 5;";

    private static void best() {
        CHECK.at("promise 12");
        TakeOrPay x = Check.told(LAST_DAY);
        due("15 next door: as many as are DUE", x.best(0, 2, 0, 0, 0), 3);
        due("20 next door: of several the least", x.best(0, 2, 0, 0, 1), 3);
        due("20 next door: none", x.best(0, 5, 0, 0, 1), 0);
        due("30 next door: all", x.best(0, 10, 0, 0, 2), 4);
        due("CREDIT", x.best(0, 2, 0, 2, 0), 1);
        TakeOrPay above = Check.told(LAST_DAY.replace("surcharge 5", "surcharge 15"));
        due("30 next door, to QUANTITY", above.best(0, 8, 0, 0, 2), 2);
        TakeOrPay made = Check.told(LAST_DAY + "made last;rest 14;");
        due("made up at 14, sold at 15", made.best(0, 4, 2, 0, 0), 3);
        TakeOrPay notice = Check.told(LAST_DAY + "notice;chance 0 0 0 4;chance 2 4 0 0;");
        due("from 15 it goes to 30", notice.best(0, 5, 0, 0, 0), 4);
        due("from 30 it goes to 15", notice.best(0, 5, 0, 0, 2), 0);
        TakeOrPay ahead = Check.told("years 1;days 2;quantity 4;paid 100;day 0 4;surcharge 20;chance 1 0 0 4;chance 2 4 0 0;");
        due("30 comes: wait", ahead.best(0, 0, 0, 0, 1), 0);
        due("15 comes: now", ahead.best(0, 0, 0, 0, 2), 4);
        TakeOrPay shut = Check.told("day 2 3;");
        shut.shut(1, 0);
        due("SHUT", shut.best(1, 0, 0, 0, 2), 0);
        due("LEAST", shut.best(0, 20, 0, 0, 0), 2);
        badPlaces(x);
    }

    private static void bestBesideCredit() {
        CHECK.at("promises 12, 13, MADE beside CREDIT");
        // At 15 always: each of MADE wins 100, each of DUE loses 500 and is worth it; 4 wait for day 1.
        TakeOrPay x = Check.told("years 1;days 2;quantity 10;paid 50;day 0 4;made first;rest 14;start 0;chance 0 4 0 0;");
        int[][] asked = {{2, 2, 1, -1300}, {2, 3, 0, -800}, {2, 1, 2, -1800}, {1, 1, 1, -1900}, {12, 8, 4, 800},
            {12, 1, 4, 800 - 8000}, {5, 5, 1, 500}, {1, 8, 0, 100}, {0, 1, 0, -2000}, {3, 0, 4, 300 - 2500},
            {2, 2, 1, -1300}};
        for (int[] a : asked) {
            due("best of " + a[0] + " " + a[1], x.best(0, 0, a[0], a[1], 0), a[2]);
            due("worth of " + a[0] + " " + a[1], x.worth(0, 0, a[0], a[1], 0, 0), a[3]);
        }
        due("two COUNTED", x.worth(0, 2, 2, 2, 0, 0), -300);
        x.shut(1, 0);
        due("2 made up, 2 of 3", x.worth(0, 0, 2, 2, 0, 0), 200 - 1000 - 2000);
    }

    private static void badPlaces(TakeOrPay x) {
        int[][] wrong = {{1, 0, 0, 0, 0}, {-1, 0, 0, 0, 0}, {0, 21, 0, 0, 0}, {0, -1, 0, 0, 0}, {0, 0, 13, 0, 0},
            {0, 0, -1, 0, 0}, {0, 0, 0, 9, 0}, {0, 0, 0, -1, 0}, {0, 0, 0, 0, 3}, {0, 0, 0, 0, -1},
            {HIGH, 0, 0, 0, 0}, {0, LOW, 0, 0, 0}, {0, 0, HIGH, 0, 0}, {0, 0, 0, LOW, 0}, {0, 0, 0, 0, HIGH}};
        for (int[] w : wrong) {
            due("best", x.best(w[0], w[1], w[2], w[3], w[4]), BAD);
            due("worth", x.worth(w[0], w[1], w[2], w[3], w[4], 0), BAD_WORTH);
            due("worthOf", x.worthOf(w[0], w[1], w[2], w[3], w[4], 1, 0), BAD_WORTH);
            if (w[1] == 0) {
                due("jumps", x.jumps(w[0], w[2], w[3], w[4], 0), BAD);
            }
        }
    }

    private static void worth() {
        CHECK.at("promise 13");
        TakeOrPay x = Check.told(LAST_DAY);
        due("three at a loss of 500", x.worth(0, 2, 0, 0, 0, 0), -1500);
        due("whole", x.worth(0, 2, 0, 0, 0, 1), 1);
        due("one short at 2000", x.worth(0, 0, 0, 0, 0, 0), -4000);
        due("four won 1000 each less surcharge", x.worth(0, 10, 0, 0, 2, 0), 2000);
        due("nothing", x.worth(0, 20, 0, 0, 0, 0), 0);
        due("nothing by one", x.worth(0, 20, 0, 0, 0, 1), 1);
        TakeOrPay two = Check.told("years 1;days 2;paid 0;day 0 1;");
        due("1000 by 1 of 4", two.worth(0, 0, 0, 0, 0, 0), 250);
        due("1000 now, by 2 of 4", two.worth(0, 0, 0, 0, 2, 0), 1500);
        TakeOrPay three = Check.told("years 1;days 3;paid 0;day 0 1;base 19;price 0 18;price 2 18;");
        due("from 1: 100, 50, 37.5", three.worth(0, 0, 0, 0, 1, 0), 375);
        due("by 2", three.worth(0, 0, 0, 0, 1, 1), 2);
        due("a day on", three.worth(1, 0, 0, 0, 1, 0), 150);
        due("from 0: 0, 25, 31.25", three.worth(0, 0, 0, 0, 0, 0), 225);
        due("by 4", three.worth(0, 0, 0, 0, 0, 1), 4);
        TakeOrPay notice = Check.told("years 1;days 1;paid 0;day 0 1;base 18;notice;price 0 19;price 1 20;price 2 18;chance 0 1 2 1;");
        due("mean 19.25, gain 125", notice.worth(0, 0, 0, 0, 0, 0), 125);
        TakeOrPay lower = Check.told("years 1;days 2;paid 0;day 0 1;base 60;price 1 1;");
        due("nothing is won, nothing is taken", lower.worth(0, 0, 0, 0, 1, 0), 0);
        due("what", x.worth(0, 0, 0, 0, 0, 2), BAD_WORTH);
        due("what", x.worth(0, 0, 0, 0, 0, -1), BAD_WORTH);
    }

    private static void worthOf() {
        CHECK.at("promise 14");
        TakeOrPay x = Check.told(LAST_DAY);
        due("none, 3 short", x.worthOf(0, 2, 0, 0, 0, 0, 0), -6000);
        due("one, 2 short", x.worthOf(0, 2, 0, 0, 0, 1, 0), -4500);
        due("four", x.worthOf(0, 2, 0, 0, 0, 4, 0), -2000);
        due("by one", x.worthOf(0, 2, 0, 0, 0, 4, 1), 1);
        TakeOrPay three = Check.told("years 1;days 3;paid 0;day 0 1;base 19;price 0 18;price 2 18;");
        due("not taken: 50, 37.5", three.worthOf(0, 0, 0, 0, 1, 0, 0), 175);
        due("by 2", three.worthOf(0, 0, 0, 0, 1, 0, 1), 2);
        due("taken at a loss", three.worthOf(2, 0, 0, 0, 0, 1, 0), -100);
        TakeOrPay shut = Check.told("day 1 2;");
        shut.shut(7, 1);
        due("SHUT, 0", shut.worthOf(7, 6, 0, 0, 0, 0, 1), 1);
        due("SHUT, 1", shut.worthOf(7, 6, 0, 0, 0, 1, 0), STATE_WORTH);
        due("below LEAST", shut.worthOf(0, 0, 0, 0, 0, 0, 0), STATE_WORTH);
        due("above MOST", shut.worthOf(0, 0, 0, 0, 0, 3, 1), STATE_WORTH);
        due("x 5", shut.worthOf(0, 0, 0, 0, 0, 5, 0), BAD_WORTH);
        due("x -1", shut.worthOf(0, 0, 0, 0, 0, -1, 0), BAD_WORTH);
        due("what", shut.worthOf(0, 0, 0, 0, 0, 1, 2), BAD_WORTH);
        due("what", shut.worthOf(0, 0, 0, 0, 0, 3, -1), BAD_WORTH);
    }

    private static void whole() {
        CHECK.at("promise 15");
        TakeOrPay x = Check.told("years 1;days 3;paid 0;day 0 1;base 19;price 0 18;price 2 18;cost 3;");
        due("buyer", x.whole(0, 0), 375);
        due("by", x.whole(0, 1), 2);
        due("seller has 1600 for each of 1, 1/2, 3/8", x.whole(1, 0), 3000);
        due("by", x.whole(1, 1), 1);
        x.shut(0, 1);
        due("a day less", x.whole(0, 0), 175);
        due("a day less", x.whole(1, 0), 1400);
        TakeOrPay dear = Check.told("years 1;days 1;paid 100;quantity 5;day 2 2;base 7;cost 60;start 0;");
        due("2 at 7 and 3 short, sold at 15", dear.whole(0, 0), -500);
        due("3500 less 12000", dear.whole(1, 0), -8500);
        TakeOrPay start = Check.told("years 1;days 1;paid 0;day 0 1;start 2;");
        due("START", start.whole(0, 0), 1000);
        TakeOrPay notice = Check.told("years 1;days 1;paid 0;day 0 1;start 2;notice;");
        due("START the day ahead", notice.whole(0, 0), 375);
        TakeOrPay index = Check.told("years 1;days 1;paid 0;day 1 1;index 50;notice;cost 0;chance 1 1 0 3;");
        due("mean 26.25", index.whole(1, 0), 4625);
        due("by 2", index.whole(1, 1), 2);
        // The most that 20 days can cost: 80 units bought at 60, sold at 1, 76 with a surcharge of 20.
        TakeOrPay most = Check.told("years 4;days 5;quantity 1;paid 0;day 4 4;base 60;surcharge 20;cost 60;price 1 1;chance 1 0 4 0;");
        due("20 days, buyer", most.whole(0, 0), -80 * 5900 - 76 * 2000);
        due("20 days, seller", most.whole(1, 0), 76 * 2000);
        due("a place of the last day", most.worth(19, 20, 12, 8, 1, 0), -4 * 7900);
        // At 21 the first time, 1 of 4 each day to stay there: 100 by 1 less a fourth to the 20th.
        TakeOrPay fine = Check.told("years 4;days 5;paid 0;day 0 1;price 1 21;price 2 20;chance 1 0 1 3;chance 2 0 0 4;");
        due("20 days, by 4 to the 19th", fine.whole(0, 1), 1L << 36);
        due("20 days, 100 (4 to the 20th less 1) by 3", fine.whole(0, 0), 25 * (((1L << 40) - 1) / 3));
        due("who", x.whole(2, 0), BAD_WORTH);
        due("who", x.whole(-1, 0), BAD_WORTH);
        due("what", x.whole(0, 2), BAD_WORTH);
        due("what", x.whole(1, -1), BAD_WORTH);
    }

    private static void units() {
        CHECK.at("promise 16");
        TakeOrPay x = Check.told("years 1;days 3;paid 0;day 0 1;base 19;price 0 18;price 2 18;");
        due("1, 1/2, 3/8", x.units(0), 15);
        due("by 8", x.units(1), 8);
        due("short", x.units(2), 0);
        due("by 1", x.units(3), 1);
        TakeOrPay shorts = Check.told("years 2;days 2;paid 100;quantity 7;day 2 2;made first;");
        due("TAKEN", shorts.units(0), 8);
        due("3 short, then 2 of 3 made up in day 2, 1 in day 3: 6 short", shorts.units(2), 9);
        due("made up", shorts.units(4), 3);
        due("by 1", shorts.units(5), 1);
        TakeOrPay late = Check.told("years 2;days 2;paid 100;quantity 7;day 2 2;made last;");
        due("7 DUE come first", late.units(4), 0);
        due("3 short twice", late.units(2), 6);
        TakeOrPay over = Check.told("years 2;days 5;quantity 12;paid 100;day 4 4;carried;");
        for (int day = 5; day < 10; day++) {
            over.shut(day, 0);
        }
        due("20 COUNTED, CREDIT 8 of 12", over.units(2), 4);
        int[] wrong = {-1, 6, LOW, HIGH};
        for (int what : wrong) {
            due("what", x.units(what), BAD);
        }
    }

    private static final String ONE = "years 1;days 1;start 0;";

    private static void without() {
        CHECK.at("promise 17");
        TakeOrPay paid = Check.told(ONE + "quantity 10;paid 50;day 0 3;");
        due("paid, buyer", paid.without(0, 0, 0), 5500);
        due("paid, seller: 10000 less 3000 is gone", paid.without(0, 1, 0), -7000);
        due("by 1", paid.without(0, 1, 1), 1);
        TakeOrPay index = Check.told(ONE + "paid 0;index 40;day 1 1;");
        due("index, buyer: 1800 was paid, 2000 now", index.without(1, 0, 0), -200);
        due("index, seller", index.without(1, 1, 0), 200);
        TakeOrPay surcharge = Check.told(ONE + "paid 0;surcharge 4;quantity 1;day 3 3;");
        due("surcharge, buyer", surcharge.without(2, 0, 0), 800);
        due("surcharge, seller", surcharge.without(2, 1, 0), -800);
        TakeOrPay made = Check.told("years 2;days 1;quantity 5;paid 100;day 2 2;made first;rest 1;");
        due("made, buyer: 3 short, 2 made up at 1 and 5 short", made.without(3, 0, 0), 200);
        due("made, seller", made.without(3, 1, 0), -200);
        TakeOrPay carried = Check.told("years 2;days 1;quantity 2;paid 100;day 0 3;carried;start 2;chance 2 4 0 0;");
        due("carried: one of two is DUE no more", carried.without(4, 0, 0), -500);
        due("carried, seller: 2 of 3 are taken then", carried.without(4, 1, 0), 1000);
        TakeOrPay notice = Check.told("years 1;days 1;paid 0;day 0 1;start 2;notice;");
        due("notice, buyer: 1000 in place of 375", notice.without(5, 0, 0), 625);
        due("notice, seller", notice.without(5, 1, 0), 0);
        TakeOrPay free = Check.told("years 1;days 2;quantity 8;paid 100;free seller;free buyer;day 0 4;start 1;chance 1 0 4 0;");
        free.shut(0, 1);
        due("free, buyer: DUE 8 in place of 4", free.without(6, 0, 0), -8000);
        due("free, seller", free.without(6, 1, 0), 8000);
        TakeOrPay day = Check.told(ONE + "paid 0;day 2 3;cost 1;");
        due("day: LEAST 0", day.without(7, 0, 0), 1000);
        due("day, seller", day.without(7, 1, 0), -3800);
        for (int word = 1; word < 7; word++) {
            due("what was not told", new TakeOrPay().without(word, 1, 0), 0);
            due("by 1", new TakeOrPay().without(word, 0, 1), 1);
        }
        due("the page stays", paid.told(5), 50);
        due("a shut day stays", free.shut(0, 1), 1);
        due("word", paid.without(8, 0, 0), BAD_WORTH);
        due("word", paid.without(-1, 0, 0), BAD_WORTH);
        due("who", paid.without(0, 2, 0), BAD_WORTH);
        due("who", paid.without(0, -1, 0), BAD_WORTH);
        due("what", paid.without(0, 0, 2), BAD_WORTH);
        due("what", paid.without(0, 0, -1), BAD_WORTH);
    }

    private static void jumps() {
        CHECK.at("promise 18");
        TakeOrPay x = Check.told(LAST_DAY);
        due("1, 2, 3 are taken at COUNTED 4, 3, 2", x.jumps(0, 0, 0, 0, 0), 3);
        due("4 to 3 at COUNTED 2", x.jumps(0, 0, 0, 0, 1), 2);
        due("CREDIT 3: 2 are DUE", x.jumps(0, 0, 3, 0, 0), 2);
        due("2 to 1 at COUNTED 1", x.jumps(0, 0, 3, 0, 1), 1);
        due("30 next door: 4 always", x.jumps(0, 0, 0, 2, 1), NONE);
        due("30 next door: 4 always", x.jumps(0, 0, 0, 2, 0), 0);
        TakeOrPay least = Check.told(LAST_DAY.replace("day 0 4", "day 2 4"));
        due("LEAST 2: 3 alone is between", least.jumps(0, 0, 0, 0, 0), 1);
        TakeOrPay at20 = Check.told("years 1;days 1;quantity 16;paid 100;made last;day 0 4;rest 0;start 0;");
        due("12 are DUE: COUNTED 9, 10, 11", at20.jumps(0, 0, 0, 0, 0), 3);
        due("3 of 12 at COUNTED 9", at20.jumps(0, 0, 0, 0, 1), 9);
        due("MADE 2: at 12 and above 2", at20.jumps(0, 2, 0, 0, 0), 10);
        due("MADE 2", at20.jumps(0, 2, 0, 0, 1), 11);
        TakeOrPay carried = Check.told("years 2;days 1;quantity 12;paid 100;day 0 1;carried;");
        due("one above QUANTITY saves one SHORT, but 20 is the most", carried.jumps(0, 0, 0, 0, 1), 20);
        x.shut(0, 0);
        due("SHUT", x.jumps(0, 0, 0, 0, 0), STATE);
        due("SHUT", x.jumps(0, 0, 0, 0, 1), STATE);
        due("BAD is the first that fits", x.jumps(0, 0, 0, 0, 2), BAD);
        due("what", x.jumps(0, 0, 0, 0, -1), BAD);
    }

    private static void offers() {
        CHECK.at("promise 19");
        // One day at 15 next door: the buyer loses BASE less 15 for each of TOP, the seller has BASE less 10.
        TakeOrPay x = Check.told(ONE + "quantity 10;paid 20;day 0 4;");
        due("PAID 0 all three, PAID 20 at 19, 20; PAID 40 none", x.offers(0), 5);
        due("PAID", x.offers(1), 20);
        due("BASE", x.offers(2), 20);
        due("as it is", x.offers(3), 0);
        due("by 1", x.offers(4), 1);
        // At 16 for 15 the buyer loses 100 for each of 2; at BASE 15 nothing, whatever PAID is.
        TakeOrPay more = Check.told(ONE + "quantity 10;paid 20;day 4 4;base 16;");
        due("4 are taken at all PAID to 40: 15 and 16 of three PAIDs", more.offers(0), 6);
        due("the first of those at 16", more.offers(1), 0);
        due("BASE", more.offers(2), 16);
        due("nothing more", more.offers(3), 0);
        TakeOrPay low = Check.told(ONE + "quantity 10;paid 10;day 0 4;base 1;price 0 1;cost 0;");
        due("PAID 10, 30 with BASE 1 alone; 10 at 2 is worse", low.offers(0), 2);
        due("of 30 three are taken", low.offers(1), 30);
        due("BASE 1 at least", low.offers(2), 1);
        due("two units more", low.offers(3), 200);
        TakeOrPay high = Check.told(ONE + "quantity 10;paid 100;day 4 4;base 60;cost 0;");
        due("PAID 80, 100 with BASE 59, 60", high.offers(0), 4);
        due("best as it is", high.offers(1), 100);
        due("BASE", high.offers(2), 60);
        TakeOrPay half = Check.told("years 1;days 2;quantity 1;paid 100;day 0 1;base 20;start 0;chance 0 2 2 0;price 0 19;price 1 21;cost 0;");
        due("denominator is above 0", half.offers(4) > 0 ? 1 : 0, 1);
        due("PAID 101 is none: 61, 81 with 19, 20", Check.told(ONE + "quantity 1;paid 81;day 1 1;").offers(0), 4);
        due("PAID 100 is one", Check.told(ONE + "quantity 1;paid 80;day 1 1;").offers(0), 6);
        due("PAID -1 is none", Check.told(ONE + "quantity 1;paid 19;day 1 1;").offers(0), 4);
        due("BASE 61 is none", Check.told(ONE + "quantity 1;paid 0;day 0 0;base 60;").offers(0), 4);
        due("BASE 60 is one", Check.told(ONE + "quantity 1;paid 0;day 0 0;base 59;").offers(0), 6);
        due("the page stays", x.told(5), 20);
        due("the page stays", x.told(6), 20);
        int[] wrong = {-1, 5, LOW, HIGH};
        for (int what : wrong) {
            due("what", x.offers(what), BAD_WORTH);
        }
    }

    private static void day() {
        CHECK.at("promise 20");
        TakeOrPay x = Check.told("years 1;days 3;");
        due("state", x.day(3, 0), BAD);
        due("state", x.day(-1, 0), BAD);
        due("x", x.day(0, 10), BAD);
        due("x", x.day(0, -1), BAD);
        due("none came", x.count(2), 0);
        due("first", x.day(2, 9), 1);
        due("second", x.day(0, 0), 2);
        due("third", x.day(1, 4), 3);
        due("all there are", x.day(1, 4), FULL);
        due("BAD is the first that fits", x.day(3, 4), BAD);
        due("still", x.count(2), 3);
        due("what was told", x.rowOf(0, 1), 9);
    }

    private static void back() {
        CHECK.at("promise 21");
        TakeOrPay x = new TakeOrPay();
        due("none", x.back(), NONE);
        x.day(0, 1);
        x.day(1, 2);
        due("one goes", x.back(), 1);
        due("the latest", x.rowOf(0, 1), 1);
        x.day(2, 3);
        due("another came", x.rowOf(1, 0), 2);
        x.back();
        due("the last goes", x.back(), 0);
        due("none", x.back(), NONE);
        due("nothing paid", x.row(5), 0);
    }

    private static void rowIs(TakeOrPay x, int... want) {
        for (int what = 0; what < want.length; what++) {
            due("row " + what, x.row(what), want[what]);
        }
    }

    private static void row() {
        CHECK.at("promise 22");
        TakeOrPay x = Check.told("years 2;days 2;quantity 4;paid 100;day 0 4;made last;rest 1;carried;surcharge 2;");
        rowIs(x, 0, NONE, 0, 0, 0, 0, 0, 0);
        x.day(0, 1);
        rowIs(x, 1, NONE, 1, 0, 0, 2000, -500, 0);
        x.day(2, 1);
        rowIs(x, 2, NONE, 0, 2, 0, 8000, -3500, 2);
        x.day(1, 4);
        rowIs(x, 3, NONE, 4, 2, 0, 16000, -3500, 2);
        x.day(1, 4);
        rowIs(x, 4, NONE, 6, 0, 0, 20600, -100, 2);
        x.back();
        x.back();
        x.back();
        x.day(1, 9);
        rowIs(x, 2, 1, 0, 0, 6, 2000 + 18000 + 1200, -500 - 1200, 0);
        x.day(1, 0);
        x.day(1, 0);
        rowIs(x, 4, 1, 0, 0, 6, 21200, -1700, 0);
        x.back();
        x.back();
        x.back();
        x.back();
        rowIs(x, 0, NONE, 0, 0, 0, 0, 0, 0);
        TakeOrPay least = Check.told("day 2 3;");
        least.shut(0, 1);
        least.day(0, 0);
        due("SHUT, 0 may be", least.row(1), NONE);
        least.day(0, 1);
        due("below LEAST", least.row(1), 1);
        least.day(0, 4);
        due("the first stays", least.row(1), 1);
        TakeOrPay shut = new TakeOrPay();
        shut.shut(0, 2);
        shut.day(0, 1);
        due("SHUT, 1 may not be", shut.row(1), 0);
        due("it is paid, whether it may be or not", shut.row(5), 2000);
        TakeOrPay full = Check.told("years 1;");
        full.day(0, 9);
        full.day(0, 9);
        full.day(0, 9);
        due("COUNTED is 20 at most", full.row(2), 20);
        due("what", x.row(8), -1000000);
        due("what", x.row(-1), -1000000);
        due("what", x.row(HIGH), -1000000);
    }

    private static void rowOf() {
        CHECK.at("promise 23");
        TakeOrPay x = Check.told("years 2;days 2;quantity 4;paid 100;day 0 4;made first;rest 1;surcharge 2;");
        x.day(2, 1);
        x.day(0, 1);
        x.day(1, 4);
        x.day(0, 9);
        int[][] want = {{2, 1, 2000, 0}, {0, 1, 2000, 0}, {1, 4, 4200, 2}, {0, 9, 18000 + 7 * 200, 0}};
        for (int day = 0; day < 4; day++) {
            for (int what = 0; what < 4; what++) {
                due("rowOf " + day + " " + what, x.rowOf(day, what), want[day][what]);
            }
        }
        due("day", x.rowOf(4, 0), BAD);
        due("day", x.rowOf(-1, 0), BAD);
        due("what", x.rowOf(0, 4), BAD);
        due("what", x.rowOf(0, -1), BAD);
        x.back();
        due("a day that went", x.rowOf(3, 1), BAD);
        due("none", new TakeOrPay().rowOf(0, 0), BAD);
    }

    private static void knew() {
        CHECK.at("promise 24");
        TakeOrPay x = Check.told("years 2;days 1;quantity 4;paid 50;day 0 4;");
        due("empty", x.knew(0), 0);
        due("empty", x.knew(1), 0);
        x.day(0, 0);
        due("two at 15 for 20", x.knew(0), -1000);
        due("none taken, two short", x.knew(1), 3000);
        x.day(2, 2);
        due("four at 30", x.knew(0), 3000);
        due("less -2000", x.knew(1), 5000);
        TakeOrPay notice = Check.told("years 1;days 2;paid 0;day 0 1;notice;start 2;chance 2 0 0 4;chance 0 4 0 0;");
        notice.day(0, 0);
        due("START says 30: taken at 15", notice.knew(0), -500);
        notice.day(2, 1);
        due("15 says 15: not taken at 30", notice.knew(0), -500);
        due("the row won 1000", notice.knew(1), -1500);
        TakeOrPay part = Check.told("years 1;days 2;quantity 4;paid 100;day 0 2;chance 0 0 0 4;");
        part.day(0, 1);
        due("SHORT is not paid yet; 4 are DUE, 2 taken at 15", part.knew(0), -1000);
        due("what", x.knew(2), -1000000);
        due("what", x.knew(-1), -1000000);
    }

    private static void came() {
        CHECK.at("promise 25");
        TakeOrPay x = Check.told("years 1;days 3;quantity 4;paid 100;day 0 3;");
        x.day(0, 0);
        x.day(2, 0);
        due("not whole", x.came(0), -1000002);
        due("not whole", x.came(1), -1000002);
        x.day(1, 0);
        due("three at 30, one at 20", x.came(0), 3000);
        due("0 3 1: the least of several", x.came(1), 16);
        x.back();
        x.day(0, 0);
        due("three at 30, one at 15", x.came(0), 2500);
        due("0 3 1", x.came(1), 16);
        x.shut(1, 0);
        due("four at 15", x.came(0), -2000);
        due("1 0 3", x.came(1), 28);
        x.back();
        due("not whole", x.came(0), -1000002);
        due("what", x.came(2), -1000000);
        due("what", x.came(-1), -1000000);
        TakeOrPay whole = Check.told("years 3;days 5;paid 0;");
        for (int day = 0; day < 15; day++) {
            whole.day(2, 0);
        }
        due("15 days at 30", whole.came(0), 45000);
        due("more than 13", whole.came(1), -1000002);
        TakeOrPay twelve = Check.told("years 4;days 3;paid 0;day 4 4;");
        for (int day = 0; day < 12; day++) {
            twelve.day(0, 9);
        }
        due("12 days at 15", twelve.came(0), -24000);
        due("444444444444", twelve.came(1), 244140624);
        due("what of a row that is not whole", new TakeOrPay().came(2), -1000000);
        TakeOrPay made = Check.told("years 2;days 1;quantity 4;paid 50;day 0 4;made first;");
        made.day(0, 0);
        made.day(2, 0);
        due("2 short at 20, made up at 30, with 2 more", made.came(0), 6000 + 2000 - 4000);
        due("0 4", made.came(1), 4);
        made.back();
        made.day(0, 0);
        due("2 at 15, then 2 at 15", made.came(0), -2000);
        due("0 4 costs as much as 2 2 and is less", made.came(1), 4);
    }

    private static void draw() {
        CHECK.at("promise 26");
        TakeOrPay x = Check.told("years 2;days 5;paid 0;day 0 1;start 2;");
        // Seed 1 gives 16838, 5758, 10113, 17515, 31051, 5627, 23010, 7419, 16212 (as an old C's
        // rand() does): 2, 2, 1, 3, 3, 3, 2, 3, 0 of 4; the first state is START.
        int[] states = {2, 2, 2, 1, 2, 2, 2, 2, 2, 0};
        due("eight at 30", x.draw(1), 8000);
        for (int day = 0; day < 10; day++) {
            due("state " + day, x.rowOf(day, 0), states[day]);
            due("taken " + day, x.rowOf(day, 1), states[day] == 2 ? 1 : 0);
        }
        due("whole", x.row(0), 10);
        due("GAIN", x.row(6), x.draw(1));
        TakeOrPay notice = Check.told("years 1;days 4;paid 0;day 0 1;notice;start 0;chance 0 0 0 4;chance 2 4 0 0;");
        due("0 says 30, 30 says 15", notice.draw(77), 2000);
        due("the first is drawn, too", notice.rowOf(0, 0), 2);
        due("taken by what was known", notice.rowOf(0, 1), 1);
        due("then 15", notice.rowOf(1, 0), 0);
        due("not taken", notice.rowOf(1, 1), 0);
        TakeOrPay over = new TakeOrPay();
        over.day(0, 9);
        over.draw(HIGH);
        due("in place of what there was", over.row(1), NONE);
        due("whole", over.row(0), 8);
        over.draw(LOW);
        due("nothing missed", over.knew(1), 0);
    }

    private static void sheet() {
        CHECK.at("promise 27");
        TakeOrPay x = new TakeOrPay();
        due("48 cells", x.sheet(0, 0, 48), 1);
        due("has 48", x.count(4), 48);
        due("the last", x.lay(0, 47, 1), 1);
        due("no cells", x.sheet(0, 2, 0), 1);
        due("has 0", x.count(4), 0);
        due("no cell", x.lay(0, 0, 1), -12);
        due("49", x.sheet(0, 2, 49), BAD);
        due("highest", x.sheet(0, 2, HIGH), BAD);
        due("-1", x.sheet(0, 2, -1), -14);
        due("lowest", x.sheet(3, 0, LOW), -14);
        due("k", x.sheet(4, 0, 1), BAD);
        due("k", x.sheet(-1, 0, 1), BAD);
        due("lane", x.sheet(0, 3, 1), BAD);
        due("lane", x.sheet(0, -1, 1), BAD);
        due("BAD is the first that fits", x.sheet(0, 3, -1), BAD);
        due("what is refused changes nothing", x.count(4), 0);
        x.sheet(1, 1, 4);
        x.lay(1, 0, 2);
        x.lay(1, 1, 3);
        x.sheet(1, 1, 4);
        due("read", x.read(1, 1, 0, 1), 1);
        due("cells are 0 anew", x.rowOf(0, 0), 0);
        due("cells are 0 anew", x.rowOf(0, 1), 0);
    }

    private static void lay() {
        CHECK.at("promise 28");
        TakeOrPay x = new TakeOrPay();
        due("nothing", x.lay(2, 0, 1), -11);
        x.sheet(2, 0, 4);
        due("cell", x.lay(2, 0, 0x7ffff02), 1);
        due("cell", x.lay(2, 1, 0x105), 1);
        due("cell", x.lay(2, 2, 0x180), 1);
        due("beyond", x.lay(2, 4, 1), -12);
        due("below", x.lay(2, -1, 1), -12);
        due("highest", x.lay(2, HIGH, 1), -12);
        due("k", x.lay(4, 0, 1), BAD);
        due("k", x.lay(-1, 0, 1), BAD);
        due("read", x.read(2, 0, 0, 1), 1);
        due("lowest bits of a byte", x.rowOf(0, 0), 2);
        due("lowest bits of a byte", x.rowOf(0, 1), 5);
        due("a sign: -128", x.read(2, 0, 2, 1), -20);
        x.sheet(2, 1, 2);
        x.lay(2, 0, 0x50001);
        x.lay(2, 1, 0x70009);
        due("read shorts", x.read(2, 1, 0, 1), 1);
        due("lowest bits of a short", x.rowOf(1, 0), 1);
        due("lowest bits of a short", x.rowOf(1, 1), 9);
        x.lay(2, 1, 0x8000);
        due("a sign", x.read(2, 1, 0, 1), -20);
        x.sheet(2, 2, 2);
        x.lay(2, 1, 0x10001);
        due("all of an int", x.read(2, 2, 0, 1), -20);
        x.lay(2, 1, 7);
        due("an int", x.read(2, 2, 0, 1), 1);
        due("an int", x.rowOf(2, 1), 7);
    }

    private static void fill(TakeOrPay x, int k, int... cells) {
        for (int i = 0; i < cells.length; i++) {
            x.lay(k, i, cells[i]);
        }
    }

    private static void read() {
        CHECK.at("promise 29");
        TakeOrPay x = new TakeOrPay();
        x.sheet(0, 1, 9);
        fill(x, 0, 0, 1, 1, 2, 2, 3, 0, 4, 1);
        due("two from cell 2", x.read(0, 1, 2, 2), 2);
        due("state", x.rowOf(0, 0), 1);
        due("taken", x.rowOf(0, 1), 2);
        due("state", x.rowOf(1, 0), 2);
        due("taken", x.rowOf(1, 1), 3);
        due("odd places", x.read(0, 1, 1, 1), 1);
        due("state", x.rowOf(2, 0), 1);
        due("taken", x.rowOf(2, 1), 1);
        due("one whole, one half", x.read(0, 1, 6, 2), 1);
        due("it came", x.count(2), 4);
        due("half", x.read(0, 1, 8, 1), 0);
        due("beyond", x.read(0, 1, 9, 20), 0);
        due("below", x.read(0, 1, -2, 2), 0);
        due("highest", x.read(0, 1, HIGH, 1), 0);
        due("lowest", x.read(0, 1, LOW, 20), 0);
        due("another lane", x.read(0, 0, 0, 1), 0);
        due("nothing", x.read(1, 1, 0, 1), 0);
        due("none asked for", x.read(3, 2, LOW, 0), 0);
        due("k", x.read(4, 1, 0, 0), BAD);
        due("k", x.read(-1, 1, 0, 1), BAD);
        due("lane", x.read(0, 3, 0, 0), BAD);
        due("lane", x.read(0, -1, 0, 1), BAD);
        due("n", x.read(0, 1, 0, 21), BAD);
        due("n", x.read(0, 1, 0, -1), BAD);
        due("so many", x.count(2), 4);
        fill(x, 0, 0, 1, 1, 2, 3, 3, 0, 10, 1);
        due("the third is no state", x.read(0, 1, 0, 4), -22);
        due("then none came", x.count(2), 4);
        due("10 taken", x.read(0, 1, 6, 2), -20);
        due("half a bad day is torn first", x.read(0, 1, 8, 1), 0);
        fill(x, 0, 0, 1, 1, 2, 2, 3, 0, 4, 1);
        due("three more", x.read(0, 1, 0, 3), 3);
        due("more than there are", x.read(0, 1, 0, 2), FULL);
        due("then none came", x.count(2), 7);
        fill(x, 0, 0, 1, 5, 5);
        due("BAD ahead of FULL", x.read(0, 1, 0, 2), -21);
        fill(x, 0, 0, 1, 1, 1, 5, 5);
        due("FULL is met first", x.read(0, 1, 0, 3), FULL);
        due("torn ahead of FULL", x.read(0, 1, 6, 2), 1);
        due("all", x.count(2), 8);
        due("FULL", x.read(0, 1, 0, 1), FULL);
        due("0 of a full row", x.read(0, 1, 0, 0), 0);
    }

    private static void torn() {
        CHECK.at("promise 30");
        TakeOrPay x = new TakeOrPay();
        due("at first", x.torn(), 0);
        x.read(0, 0, 0, 1);
        due("NULL", x.torn(), 1);
        x.read(0, 0, 0, 0);
        due("n 0: none", x.torn(), 0);
        x.sheet(0, 0, 3);
        x.read(0, 2, 0, 1);
        due("CAST", x.torn(), 3);
        x.read(0, 2, 0, 21);
        due("a refused one leaves it", x.torn(), 3);
        x.read(0, 0, 0, 2);
        due("INDEX", x.torn(), 2);
        x.lay(0, 0, 7);
        due("BAD", x.read(0, 0, 0, 1), -20);
        due("a refused one leaves it", x.torn(), 2);
        due("asked again", x.torn(), 2);
        x.lay(0, 0, 0);
        x.read(0, 0, 0, 1);
        due("none", x.torn(), 0);
        x.read(0, 0, -1, 1);
        due("INDEX below", x.torn(), 2);
        x.page();
        due("a page leaves it", x.torn(), 2);
        x.read(2, 1, 0, 0);
        due("n 0 of nothing: none", x.torn(), 0);
        x.read(0, 1, 50, 1);
        due("CAST ahead of INDEX", x.torn(), 3);
    }

    private static void count() {
        CHECK.at("promise 31");
        TakeOrPay x = Check.told("years 4;days 5;");
        due("days", x.count(0), 20);
        x.shut(0, 0);
        x.shut(19, 1);
        x.shut(7, 2);
        due("shut", x.count(1), 3);
        x.shut(7, NONE);
        due("shut", x.count(1), 2);
        x.day(0, 0);
        due("row", x.count(2), 1);
        x.feed(0);
        due("bytes", x.count(3), 8);
        due("cells", x.count(4), NONE);
        x.sheet(1, 0, 3);
        due("of sheet 0", x.count(4), NONE);
        x.sheet(0, 0, 7);
        due("cells", x.count(4), 7);
        int[] wrong = {-1, 5, LOW, HIGH};
        for (int what : wrong) {
            due("what", x.count(what), BAD);
        }
    }

    /** One day at 15 next door, 2 of 4 paid: what the page is worth follows each change of it. */
    private static void pageChanges() {
        CHECK.at("promises 4, 7, what is known of the page");
        TakeOrPay x = Check.told(ONE + "quantity 4;paid 50;free seller;");
        for (int i = 0; i < 2; i++) {
            due("best", x.best(0, 0, 0, 0, 0), 2);
            due("whole", x.whole(0, 0), -1000);
            due("seller", x.whole(1, 0), 2000);
            due("taken", x.units(0), 2);
            due("without paid", x.without(0, 0, 0), 1000);
            due("without free", x.without(6, 0, 0), 0);
            due("TOP 1 of PAID 30: all three; TOP 2 of 50 and 70: at 19, 20", x.offers(0), 7);
            x.shut(0, 1);
            due("best", x.best(0, 0, 0, 0, 0), 0);
            due("whole", x.whole(0, 0), 0);
            due("seller", x.whole(1, 0), 0);
            due("taken", x.units(0), 0);
            due("without paid", x.without(0, 0, 0), 0);
            due("without free", x.without(6, 0, 0), -4000);
            due("offers", x.offers(0), 9);
            x.shut(0, 2);
            due("best", x.best(0, 0, 0, 0, 0), 0);
            due("whole", x.whole(0, 0), -4000);
            due("short", x.units(2), 2);
            due("offers", x.offers(0), 7);
            Check.feed(x, ONE + "quantity 4;paid 50;made first;");
            x.page();
            due("best", x.best(0, 0, 0, 0, 0), 2);
            due("short", x.units(2), 0);
            due("made up", x.units(4), 0);
            Check.feed(x, ONE + "quantity 4;paid 50;free seller;");
            x.page();
        }
        Check.feed(x, "base 0;");
        x.page();
        due("a page that is refused changes nothing", x.whole(0, 0), -1000);
    }

    /** What came() answers follows each change of the row. */
    private static void rowChanges() {
        CHECK.at("promises 20, 21, 25, 26, 29, what is known of the row");
        TakeOrPay x = Check.told("years 1;days 2;paid 0;day 0 1;chance 1 0 4 0;");
        x.day(2, 0);
        x.day(2, 0);
        due("two at 30", x.came(0), 2000);
        due("1 1", x.came(1), 6);
        x.back();
        x.day(0, 0);
        due("one at 30", x.came(0), 1000);
        due("1 0", x.came(1), 5);
        x.draw(3);
        due("drawn: 20 always", x.came(0), 0);
        due("0 0", x.came(1), 0);
        x.back();
        x.sheet(0, 0, 2);
        x.lay(0, 0, 2);
        x.read(0, 0, 0, 1);
        due("read: 20, 30", x.came(0), 1000);
        due("0 1", x.came(1), 1);
        x.shut(1, 0);
        due("SHUT", x.came(0), 0);
        x.shut(1, NONE);
        due("not SHUT", x.came(0), 1000);
    }
}
