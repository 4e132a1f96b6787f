import java.util.Random;

/** Random runs of calls, each asked of TakeOrPay and of the plain model; the seeds are fixed. */
public final class ModelTest {
    private static final Check CHECK = new Check();
    private static final int[] EDGES = {-1, 0, 1, 2, 3, 4, 5, 7, 8, 9, 12, 13, 20, 21, 48, 49, -4, -2,
        Integer.MIN_VALUE, Integer.MAX_VALUE};

    private final Random random;
    private final TakeOrPay x = new TakeOrPay();
    private final Model m = new Model();
    private final int leastYears;
    private final int mostYears;
    private final int mostDays;

    private ModelTest(long seed, int leastYears, int mostYears, int mostDays) {
        random = new Random(seed);
        this.leastYears = leastYears;
        this.mostYears = mostYears;
        this.mostDays = mostDays;
        CHECK.at("seed " + seed);
    }

    public static void main(String[] args) {
        for (int seed = 0; seed < 400; seed++) {
            new ModelTest(seed, 1, 3, 3).run(120);
        }
        for (int seed = 1000; seed < 1040; seed++) {
            new ModelTest(seed, 1, 4, 5).run(60);
        }
        for (int seed = 2000; seed < 3000; seed++) {
            // Each text takes some 60 of an object's 512 calls.
            new ModelTest(seed, 1, 2, 2).texts(7);
        }
        for (int seed = 3000; seed < 3012; seed++) {
            new ModelTest(seed, 4, 4, 5).run(60);
        }
        CHECK.finish();
    }

    private void due(String call, long got, long want) {
        CHECK.due(call, got, want);
    }

    private int below(int n) {
        return random.nextInt(n);
    }

    /** Mostly 0 to high, else an edge. */
    private int around(int high) {
        return below(25) == 0 ? EDGES[below(EDGES.length)] : below(high + 1);
    }

    private void run(int calls) {
        tell(goodText());
        for (int i = 0; i < calls && !CHECK.failed(); i++) {
            call();
        }
    }

    private void texts(int texts) {
        for (int i = 0; i < texts && !CHECK.failed(); i++) {
            tell(spoilt(goodText()));
            for (int what = -1; what < 40; what++) {
                due("told " + what, x.told(what), m.told(what));
            }
        }
    }

    private void tell(String text) {
        for (int i = 0; i < text.length(); i += 8) {
            long v = Check.eight(text, i);
            due("feed", x.feed(v), m.feed(v));
        }
        due("end", x.end(text.length()), m.end(text.length()));
        due("page of '" + text + "'", x.page(), m.page());
        due("fault of '" + text + "'", x.fault(), m.fault);
    }

    private String goodText() {
        StringBuilder b = new StringBuilder();
        int years = leastYears + below(mostYears - leastYears + 1);
        int days = leastYears > 1 ? mostDays : 1 + below(mostDays);
        b.append("years ").append(years).append(";days ").append(days).append(";");
        String[] lines = {"quantity " + (1 + below(16)), "paid " + below(101), "base " + (1 + below(60)),
            "index " + below(101), "surcharge " + below(21), "rest " + below(61), "carried", "notice",
            "cost " + below(61), "start " + below(3), "made first", "free nobody", "free seller", "free buyer"};
        for (String line : lines) {
            if (below(2) == 0) {
                b.append(line.equals("made first") && below(2) == 0 ? "made last" : line).append(";");
            }
        }
        if (below(2) == 0) {
            int least = below(5);
            least = below(2) == 0 ? 0 : least;
            b.append("day ").append(least).append(" ").append(least + below(5 - least)).append(";");
        }
        for (int s = 0; s < 3; s++) {
            if (below(2) == 0) {
                b.append("price ").append(s).append(" ").append(1 + below(60)).append(";");
            }
            if (below(2) == 0) {
                int first = below(5);
                int second = below(5 - first);
                b.append("chance ").append(s).append(" ").append(first).append(" ").append(second).append(" ")
                    .append(4 - first - second).append(";");
            }
        }
        return b.toString();
    }

    private String spoilt(String text) {
        StringBuilder b = new StringBuilder(text);
        String[] pieces = {" ", "  ", ";", "7", "0", "999", "1000", "base", "first", "seller", "free", "price 1 5;",
            "chance 0 1 1 2;", "made last;", "x", "A", "\t", "\u00ff", "carried;", "day 2 1;", "notice"};
        int changes = below(4);
        for (int i = 0; i < changes && b.length() > 0; i++) {
            int at = below(b.length());
            if (below(3) == 0) {
                b.deleteCharAt(at);
            } else {
                b.insert(at, pieces[below(pieces.length)]);
            }
        }
        b.setLength(Math.min(320, b.length()));
        return b.toString();
    }

    private void call() {
        int group = below(10);
        if (group < 2) {
            pageCall();
        } else if (group < 6) {
            bestCall();
        } else if (group < 9) {
            rowCall();
        } else {
            sheetCall();
        }
    }

    private void pageCall() {
        int day = around(m.count(0));
        int y = around(mostYears);
        int what = around(3);
        switch (below(8)) {
            case 0:
            case 1:
                int who = below(3) == 0 ? -4 : around(2);
                due("shut", x.shut(day, who), m.shut(day, who));
                break;
            case 2:
                due("year", x.year(y, what), m.year(y, what));
                break;
            case 3:
                due("whose", x.whose(y, what), m.whose(y, what));
                break;
            case 4:
                int counted = around(20);
                int credit = around(8);
                due("ends", x.ends(y, counted, credit, what), m.ends(y, counted, credit, what));
                break;
            case 5:
                int term = around(39);
                due("told", x.told(term), m.told(term));
                break;
            case 6:
                what = around(5);
                due("count", x.count(what), m.count(what));
                break;
            default:
                if (below(4) == 0) {
                    tell(below(3) == 0 ? spoilt(goodText()) : goodText());
                } else if (below(2) == 0) {
                    long v = random.nextLong();
                    due("feed", x.feed(v), m.feed(v));
                } else {
                    int n = around(40);
                    due("end", x.end(n), m.end(n));
                }
                break;
        }
    }

    private void bestCall() {
        int day = around(m.count(0) - 1);
        int counted = around(20);
        int made = around(12);
        int credit = around(8);
        int s = around(2);
        int taken = around(4);
        int what = around(1);
        switch (below(9)) {
            case 0:
                int of = around(3);
                due("takes", x.takes(day, counted, made, credit, s, taken, of),
                    m.takes(day, counted, made, credit, s, taken, of));
                break;
            case 1:
                due("best", x.best(day, counted, made, credit, s), m.best(day, counted, made, credit, s));
                break;
            case 2:
                due("worth", x.worth(day, counted, made, credit, s, what),
                    m.worth(day, counted, made, credit, s, what));
                break;
            case 3:
                due("worthOf", x.worthOf(day, counted, made, credit, s, taken, what),
                    m.worthOf(day, counted, made, credit, s, taken, what));
                break;
            case 4:
                due("whole", x.whole(s, what), m.whole(s, what));
                break;
            case 5:
                int which = around(6);
                due("units", x.units(which), m.units(which));
                break;
            case 6:
                int word = around(7);
                int who = around(1);
                due("without " + word, x.without(word, who, what), m.without(word, who, what));
                break;
            case 7:
                due("jumps", x.jumps(day, made, credit, s, what), m.jumps(day, made, credit, s, what));
                break;
            default:
                int offer = around(4);
                due("offers", x.offers(offer), m.offers(offer));
                break;
        }
    }

    private void rowCall() {
        int what = around(7);
        int part = around(1);
        switch (below(9)) {
            case 0:
            case 1:
            case 2:
                int s = around(2);
                int taken = below(5) == 0 ? around(9) : around(m.told(4));
                due("day", x.day(s, taken), m.day(s, taken));
                break;
            case 3:
                if (below(3) == 0) {
                    due("back", x.back(), m.back());
                }
                break;
            case 4:
                due("row", x.row(what), m.row(what));
                break;
            case 5:
                int day = around(m.count(2));
                due("rowOf", x.rowOf(day, what % 4), m.rowOf(day, what % 4));
                break;
            case 6:
                due("knew", x.knew(part), m.knew(part));
                break;
            case 7:
                due("came", x.came(part), m.came(part));
                break;
            default:
                int seed = random.nextInt();
                due("draw", x.draw(seed), m.draw(seed));
                for (int i = 0; i < m.count(2); i++) {
                    due("drawn", x.rowOf(i, 0) * 10 + x.rowOf(i, 1), m.rowOf(i, 0) * 10 + m.rowOf(i, 1));
                }
                due("came of it", x.came(part), m.came(part));
                break;
        }
    }

    private void sheetCall() {
        int k = around(1);
        int lane = below(3) == 0 ? around(2) : 1;
        switch (below(4)) {
            case 0:
                int n = around(20);
                due("sheet", x.sheet(k, lane, n), m.sheet(k, lane, n));
                break;
            case 1:
                for (int j = 0; j < 12; j++) {
                    int i = around(12);
                    int v = below(8) == 0 ? random.nextInt() : below(3);
                    due("lay", x.lay(k, i, v), m.lay(k, i, v));
                }
                break;
            case 2:
                int f = around(6);
                int days = around(4);
                due("read", x.read(k, lane, f, days), m.read(k, lane, f, days));
                due("torn", x.torn(), m.torn);
                break;
            default:
                due("row", x.row(6), m.row(6));
                break;
        }
    }
}
