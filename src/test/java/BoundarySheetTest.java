/** Boundary cases of SHEETS, and of promises 27 to 31. */
public final class BoundarySheetTest extends Boundary {
    public static void main(String[] args) throws IllegalAccessException {
        runAll(BoundarySheetTest.class);
    }

    private static TakeOrPay with(int lane, int... cells) {
        TakeOrPay x = new TakeOrPay();
        due("sheet", x.sheet(0, lane, cells.length), 1);
        lay(x, 0, cells);
        return x;
    }

    @Sentence(words = "SHEETS 0 to 3 are rows of BYTES (lane 0), SHORTS (1), INTS (2), all with a sign, with 0 to 48 CELLS, or nothing (at first).")
    static void lanes() {
        TakeOrPay x = new TakeOrPay();
        for (int k = 0; k < 4; k++) {
            due("nothing at first", x.lay(k, 0, 0), -11);
            due("0 CELLS", x.sheet(k, k % 3, 0), 1);
            due("that is not nothing", x.lay(k, 0, 0), -12);
            due("48 CELLS", x.sheet(k, k % 3, 48), 1);
            due("CELL 47", x.lay(k, 47, 0), 1);
            due("CELL 48", x.lay(k, 48, 0), -12);
        }
        due("SHEET 4", x.sheet(4, 0, 1), BAD);
        due("lane 3", x.sheet(0, 3, 1), BAD);
        int[] ones = {0xff, 0xffff, -1};
        int[] mosts = {0x7f, 0x7fff, HIGH};
        for (int lane = 0; lane < 3; lane++) {
            due("-1 is no STATE", with(lane, ones[lane], 0).read(0, lane, 0, 1), -20);
            due("-1 is not TAKEN", with(lane, 0, ones[lane]).read(0, lane, 0, 1), -20);
            due("the most is no STATE", with(lane, mosts[lane], 0).read(0, lane, 0, 1), -20);
            due("the least is not TAKEN", with(lane, 0, mosts[lane] + 1).read(0, lane, 0, 1), -20);
        }
    }

    @Sentence(words = "A FAULT is what the machine finds: 1 NULL (nothing), 2 INDEX, 3 CAST (another lane), 4 SIZE (below 0).")
    static void faults() {
        TakeOrPay x = new TakeOrPay();
        due("NULL", x.lay(0, 0, 0), -11);
        x.read(0, 0, 0, 1);
        due("NULL", x.torn(), 1);
        due("SIZE", x.sheet(0, 0, -1), -14);
        x.sheet(0, 0, 2);
        due("INDEX", x.lay(0, 2, 0), -12);
        x.read(0, 0, 1, 1);
        due("INDEX", x.torn(), 2);
        for (int lane = 1; lane < 3; lane++) {
            x.read(0, lane, 0, 1);
            due("CAST", x.torn(), 3);
            x.read(0, 0, 0, 1);
            due("none", x.torn(), 0);
        }
    }

    @Sentence(promise = 27, words = "A SHEET is a new row of CELLS 0: 1.")
    static void newRow() {
        TakeOrPay x = with(2, 2, 9, 1, 5);
        due("anew", x.sheet(0, 2, 4), 1);
        due("read", x.read(0, 2, 0, 2), 2);
        for (int day = 0; day < 2; day++) {
            due("0", x.rowOf(day, 0), 0);
            due("0", x.rowOf(day, 1), 0);
        }
        lay(x, 0, 2, 9, 1, 5);
        due("fewer", x.sheet(0, 2, 2), 1);
        due("CELLS", x.count(4), 2);
        due("the others are gone", x.lay(0, 2, 1), -12);
        due("more", x.sheet(0, 2, 4), 1);
        due("read", x.read(0, 2, 2, 1), 1);
        due("what was gone is 0", 10 * x.rowOf(2, 0) + x.rowOf(2, 1), 0);
        due("another lane", x.sheet(0, 0, 4), 1);
        due("not the one before", x.read(0, 2, 0, 1), 0);
        due("CAST", x.torn(), 3);
        due("SHEET 1 is another", x.lay(1, 0, 0), -11);
    }

    @Sentence(promise = 27, words = "BAD: also n above 48; -14 (SIZE): n below 0.")
    static void sheetIsRefused() {
        TakeOrPay x = new TakeOrPay();
        bounds("sheet", a -> x.sheet(a[0], a[1], a[2]), is(0, 0, 1), 0, 0, 3, BAD);
        bounds("sheet", a -> x.sheet(a[0], a[1], a[2]), is(0, 0, 1), 1, 0, 2, BAD);
        dues("sheet", a -> x.sheet(0, 0, a[0]), is(0, 1), is(48, 1), is(49, BAD), is(HIGH, BAD), is(-1, -14), is(LOW, -14));
        due("as it was", x.count(4), 48);
        due("BAD comes first", x.sheet(4, 0, -1), BAD);
        due("BAD comes first", x.sheet(-1, 0, LOW), BAD);
        due("BAD comes first", x.sheet(0, 3, -1), BAD);
    }

    @Sentence(promise = 28, words = "CELL i of a SHEET becomes v (its lowest bits): 1.")
    static void lowestBits() {
        int[][] kept = {{258, 2}, {-254, 2}, {0x7fffff01, 1}, {LOW, 0}, {256, 0}};
        for (int[] k : kept) {
            TakeOrPay x = with(0, k[0], k[0]);
            due("BYTE of " + k[0], x.read(0, 0, 0, 1), 1);
            due("BYTE of " + k[0], 10 * x.rowOf(0, 0) + x.rowOf(0, 1), 11 * k[1]);
        }
        int[][] shorts = {{65538, 2}, {-65534, 2}, {0x7fff0001, 1}, {LOW, 0}, {65536, 0}};
        for (int[] k : shorts) {
            TakeOrPay x = with(1, k[0], k[0]);
            due("SHORT of " + k[0], x.read(0, 1, 0, 1), 1);
            due("SHORT of " + k[0], 10 * x.rowOf(0, 0) + x.rowOf(0, 1), 11 * k[1]);
        }
        int[] whole = {256, 65536, 258, 65538, LOW, HIGH, -1};
        for (int v : whole) {
            due("an INT keeps all", with(2, v, 0).read(0, 2, 0, 1), -20);
        }
        due("a SHORT keeps 256", with(1, 256, 0).read(0, 1, 0, 1), -20);
        TakeOrPay x = with(2, 2, 9);
        due("an INT", x.read(0, 2, 0, 1), 1);
        due("an INT", 10 * x.rowOf(0, 0) + x.rowOf(0, 1), 29);
    }

    @Sentence(promise = 28, words = "BAD: k; -10 less the FAULT: NULL, INDEX.")
    static void layIsRefused() {
        TakeOrPay x = new TakeOrPay();
        bounds("lay", a -> x.lay(a[0], a[1], a[2]), is(0, 0, 0), 0, 0, 3, BAD);
        int[] places = {0, -1, 1, LOW, HIGH};
        for (int i : places) {
            due("NULL, whatever i is", x.lay(2, i, 0), -11);
        }
        x.sheet(2, 1, 5);
        bounds("lay", a -> x.lay(a[0], a[1], a[2]), is(2, 0, 0), 1, 0, 4, -12);
        x.sheet(2, 1, 0);
        due("no CELL", x.lay(2, 0, 0), -12);
    }

    @Sentence(promise = 29, words = "n (0 to 20) DAYS (STATE, TAKEN) are read of a SHEET taken as of a lane, two CELLS each from CELL f on, "
        + "behind THE ROW: how many came.")
    static void howManyCame() {
        TakeOrPay x = told("years 4;days 5;");
        x.sheet(0, 0, 48);
        due("none", x.read(0, 0, 0, 0), 0);
        due("all 20", x.read(0, 0, 0, 20), 20);
        due("21", x.read(0, 0, 0, 21), BAD);
        TakeOrPay at = with(1, 0, 1, 1, 2, 2, 3);
        due("from CELL 0", at.read(0, 1, 0, 1), 1);
        due("from CELL 1", at.read(0, 1, 1, 2), 2);
        due("the last two", at.read(0, 1, 4, 1), 1);
        int[][] want = {{0, 1}, {1, 1}, {2, 2}, {2, 3}};
        for (int day = 0; day < 4; day++) {
            due("DAY " + day, 10 * at.rowOf(day, 0) + at.rowOf(day, 1), 10 * want[day][0] + want[day][1]);
        }
    }

    @Sentence(promise = 29, words = "What the machine refuses: those that were whole ahead come (its FAULT is asked by torn(); "
        + "of n 0: 0, no FAULT, whatever the SHEET is).")
    static void whatTheMachineRefuses() {
        torn("two whole, then the end", with(0, 0, 1, 1, 2), 0, 0, 3, 2, 2);
        torn("two whole, then half a DAY", with(0, 0, 1, 1, 2, 2), 0, 0, 3, 2, 2);
        torn("half a DAY", with(0, 0), 0, 0, 1, 0, 2);
        torn("half a DAY that would be BAD", with(0, 9), 0, 0, 1, 0, 2);
        torn("no CELLS", with(0), 0, 0, 1, 0, 2);
        torn("from -1", with(0, 0, 1, 1, 2), 0, -1, 2, 0, 2);
        torn("from -2: none is whole ahead", with(0, 0, 1, 1, 2), 0, -2, 3, 0, 2);
        torn("from the last", with(0, 0, 1, 1, 2), 0, 3, 1, 0, 2);
        torn("from behind the last", with(0, 0, 1, 1, 2), 0, 4, 20, 0, 2);
        torn("from the highest", with(0, 0, 1), 0, HIGH, 20, 0, 2);
        torn("from the one below", with(0, 0, 1), 0, HIGH - 1, 20, 0, 2);
        torn("from the lowest", with(0, 0, 1), 0, LOW, 20, 0, 2);
        torn("another lane", with(0, 0, 1), 1, 0, 1, 0, 3);
        torn("another lane, no such CELL", with(0, 0, 1), 2, 99, 1, 0, 3);
        torn("another lane, a BAD DAY", with(2, 9, 9), 1, 0, 1, 0, 3);
        torn("nothing", new TakeOrPay(), 0, 0, 1, 0, 1);
        torn("nothing, no such CELL", new TakeOrPay(), 2, -1, 20, 0, 1);
        torn("n 0 of nothing", new TakeOrPay(), 2, 0, 0, 0, 0);
        torn("n 0 of another lane", with(0, 0, 1), 2, 0, 0, 0, 0);
        torn("n 0 from nowhere", with(0, 0, 1), 0, LOW, 0, 0, 0);
        torn("n 0 of a BAD DAY", with(0, 9, 9), 0, 0, 0, 0, 0);
        torn("all were whole", with(0, 0, 1, 1, 2), 0, 0, 2, 2, 0);
    }

    private static void torn(String name, TakeOrPay x, int lane, int f, int n, int came, int fault) {
        x.read(3, 0, 0, fault == 1 ? 0 : 1);
        due(name, x.read(0, lane, f, n), came);
        due(name + ": FAULT", x.torn(), fault);
        due(name + ": THE ROW", x.count(2), came);
    }

    @Sentence(promise = 29, words = "BAD: k, lane, n; -20 less i (0 on): DAY i, whole, is refused by day() as BAD: then none came; "
        + "FULL: likewise; the first met.")
    static void readIsRefused() {
        TakeOrPay x = told("years 4;days 5;");
        x.sheet(0, 0, 48);
        bounds("read", a -> x.read(a[0], a[1], a[2], a[3]), is(0, 0, 0, 0), 0, 0, 3, BAD);
        bounds("read", a -> x.read(a[0], a[1], a[2], a[3]), is(0, 0, 0, 0), 1, 0, 2, BAD);
        bounds("read", a -> x.read(a[0], a[1], a[2], a[3]), is(0, 0, 0, 0), 3, 0, 20, BAD);
        due("20 came of these", x.count(2), 20);
        due("FULL", x.read(0, 0, 0, 1), FULL);
        TakeOrPay bad = told("years 4;days 5;");
        bad.sheet(0, 0, 48);
        bad.lay(0, 38, 3);
        due("DAY 19 is no STATE", bad.read(0, 0, 0, 20), -39);
        due("none came", bad.count(2), 0);
        due("19 ahead of it", bad.read(0, 0, 0, 19), 19);
        due("DAY 0 of these", bad.read(0, 0, 38, 1), -20);
        bad.lay(0, 38, 0);
        bad.lay(0, 39, 10);
        due("10 TAKEN", bad.read(0, 0, 38, 1), -20);
        due("one has room, the next is BAD", bad.read(0, 0, 36, 2), -21);
        due("none came", bad.count(2), 19);
        due("FULL is met first", bad.read(0, 0, 34, 3), FULL);
        due("none came", bad.count(2), 19);
        bad.lay(0, 39, 9);
        due("9 TAKEN", bad.read(0, 0, 38, 1), 1);
        due("BAD ahead of FULL", badOfAFullRow().read(0, 0, 0, 1), -20);
        due("torn ahead of FULL", tornOfAFullRow(0, 1).read(0, 0, 2, 1), 0);
        due("FULL ahead of torn", tornOfAFullRow(0, 1).read(0, 0, 0, 2), FULL);
        due("BAD ahead of torn", with(0, 0, 0, 3, 0).read(0, 0, 0, 3), -21);
    }

    private static TakeOrPay badOfAFullRow() {
        return tornOfAFullRow(3, 1);
    }

    private static TakeOrPay tornOfAFullRow(int... cells) {
        TakeOrPay x = with(0, cells);
        x.draw(1);
        return x;
    }

    @Sentence(promise = 30, words = "The FAULT of the latest read() that answered 0 or more; 0 (one that is refused leaves it).")
    static void latestFault() {
        TakeOrPay x = new TakeOrPay();
        due("none at first", x.torn(), 0);
        due("BAD", x.read(4, 0, 0, 1), BAD);
        due("none yet", x.torn(), 0);
        x.read(0, 0, 0, 1);
        due("NULL", x.torn(), 1);
        x.sheet(0, 0, 2);
        x.lay(0, 0, 3);
        due("refused as BAD", x.read(0, 0, 0, 1), -20);
        due("it is left", x.torn(), 1);
        due("refused by n", x.read(0, 0, 0, 21), BAD);
        due("it is left", x.torn(), 1);
        x.read(0, 2, 0, 1);
        due("CAST", x.torn(), 3);
        x.lay(0, 0, 2);
        x.draw(1);
        due("refused as FULL", x.read(0, 0, 0, 1), FULL);
        due("it is left", x.torn(), 3);
        due("0 of n 0", x.read(0, 0, 0, 0), 0);
        due("none", x.torn(), 0);
        x.read(0, 0, 2, 1);
        due("INDEX", x.torn(), 2);
        x.back();
        x.page();
        due("a page leaves it", x.torn(), 2);
        due("all came", x.read(0, 0, 0, 1), 1);
        due("none", x.torn(), 0);
    }

    @Sentence(promise = 31, words = "How many: 0 DAYS of all YEARS, 1 SHUT ones, 2 DAYS of THE ROW, 3 bytes on THE TAPE, 4 CELLS of SHEET 0 (NONE: nothing). BAD.")
    static void counts() {
        TakeOrPay x = told("years 1;days 1;");
        int[] none = {1, 0, 0, 0, NONE};
        for (int what = 0; what < 5; what++) {
            due("the fewest " + what, x.count(what), none[what]);
        }
        x.sheet(1, 0, 5);
        due("SHEET 1 is not asked for", x.count(4), NONE);
        x.sheet(0, 0, 0);
        due("no CELLS is not nothing", x.count(4), 0);
        TakeOrPay most = told("years 4;days 5;");
        for (int day = 0; day < 20; day++) {
            most.shut(day, day % 3);
        }
        most.draw(0);
        Check.feed(most, blanks(320));
        most.sheet(0, 2, 48);
        int[] all = {20, 20, 20, 320, 48};
        for (int what = 0; what < 5; what++) {
            due("the most " + what, most.count(what), all[what]);
        }
        bounds("count", a -> most.count(a[0]), is(0), 0, 0, 4, BAD);
    }
}
