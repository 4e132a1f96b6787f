import java.math.BigInteger;
import java.util.ArrayList;
import java.util.Arrays;
import java.util.HashMap;
import java.util.List;
import java.util.Map;

/**
 * The document once more, as plainly as it can be said and without a thought for speed: takings go
 * unit by unit, fractions are fractions, a day that is not known yet is gone through state by state.
 * ModelTest asks it and TakeOrPay the same.
 */
final class Model {
    private static final int BAD = -1;
    private static final int STATE = -2;
    private static final int FULL = -3;
    private static final int NONE = -4;
    private static final long BAD_WORTH = -9000000000000000001L;
    private static final long STATE_WORTH = -9000000000000000002L;

    /** A fraction in lowest terms. */
    record Part(BigInteger top, BigInteger bottom) {
        static final Part ZERO = of(0);

        static Part of(long n) {
            return new Part(BigInteger.valueOf(n), BigInteger.ONE);
        }

        private static Part lowest(BigInteger top, BigInteger bottom) {
            BigInteger g = top.gcd(bottom);
            return new Part(top.divide(g), bottom.divide(g));
        }

        Part plus(Part p) {
            return lowest(top.multiply(p.bottom).add(p.top.multiply(bottom)), bottom.multiply(p.bottom));
        }

        Part minus(Part p) {
            return plus(new Part(p.top.negate(), p.bottom));
        }

        Part times(int n, int by) {
            return lowest(top.multiply(BigInteger.valueOf(n)), bottom.multiply(BigInteger.valueOf(by)));
        }

        int compare(Part p) {
            return top.multiply(p.bottom).compareTo(p.top.multiply(bottom));
        }

        long part(int what) {
            return (what == 0 ? top : bottom).longValueExact();
        }
    }

    /** What the words say; shut days belong to it, because what holds in a year hangs on them. */
    static final class Words {
        int years = 2;
        int days = 4;
        int quantity = 8;
        int least = 0;
        int most = 3;
        int paid = 80;
        int base = 20;
        int index = 0;
        int surcharge = 0;
        int made = 0;
        int rest = 0;
        boolean carried;
        boolean notice;
        boolean[] free = new boolean[3];
        int cost = 10;
        int start = 1;
        int[] price = {15, 20, 30};
        int[][] chance = {{2, 1, 1}, {1, 2, 1}, {1, 1, 2}};
        Map<Integer, Integer> shut = new HashMap<>();

        Words copy() {
            Words w = new Words();
            w.years = years;
            w.days = days;
            w.quantity = quantity;
            w.least = least;
            w.most = most;
            w.paid = paid;
            w.base = base;
            w.index = index;
            w.surcharge = surcharge;
            w.made = made;
            w.rest = rest;
            w.carried = carried;
            w.notice = notice;
            w.free = free.clone();
            w.cost = cost;
            w.start = start;
            w.price = price.clone();
            w.chance = new int[][] {chance[0].clone(), chance[1].clone(), chance[2].clone()};
            w.shut.putAll(shut);
            return w;
        }

        int total() {
            return years * days;
        }

        int freeOnes(int y) {
            int n = 0;
            for (int d = y * days; d < (y + 1) * days; d++) {
                n += shut.containsKey(d) && free[shut.get(d)] ? 1 : 0;
            }
            return n;
        }

        int shutOnes(int y) {
            int n = 0;
            for (int d = y * days; d < (y + 1) * days; d++) {
                n += shut.containsKey(d) ? 1 : 0;
            }
            return n;
        }

        int less(int amount, int free) {
            return amount - (int) Math.floor((double) (amount * free) / days);
        }

        int topAtFirst() {
            return Math.min(12, Math.floorDiv(quantity * paid, 100));
        }

        int top(int y) {
            return less(topAtFirst(), freeOnes(y));
        }

        int quantityOf(int y) {
            return less(quantity, freeOnes(y));
        }

        boolean may(int day, int x) {
            return shut.containsKey(day) ? x == 0 : x >= least && x <= most;
        }
    }

    /** A taking, unit by unit. */
    static final class Taking {
        int counted;
        int made;
        int madeUp;
        int paid;
        int gain;

        Taking(Words w, int day, int counted, int made, int credit, int s, int x) {
            int y = day / w.days;
            int due = Math.max(0, w.top(y) - credit);
            this.counted = counted;
            this.made = made;
            int fresh = 0;
            for (int i = 0; i < x; i++) {
                boolean up = false;
                if (w.made == 1) {
                    up = this.made > 0;
                } else if (w.made == 2) {
                    // First those that DUE has more, in one go; then what is open to be made up.
                    up = counted + fresh >= due && this.made > 0;
                }
                if (up) {
                    this.made--;
                    madeUp++;
                    paid += 100 * w.rest;
                } else {
                    paid += w.base * (100 - w.index) + w.price[s] * w.index;
                    paid += this.counted >= w.quantityOf(y) ? 100 * w.surcharge : 0;
                    this.counted = Math.min(20, this.counted + 1);
                    fresh++;
                }
            }
            gain = 100 * w.price[s] * x - paid;
        }
    }

    /** A year's end. */
    static final class End {
        int shorts;
        int paid;
        int made;
        int credit;

        End(Words w, int y, int counted, int creditNow) {
            shorts = Math.max(0, Math.max(0, w.top(y) - creditNow) - counted);
            paid = shorts * w.base * 100;
            made = w.made != 0 ? shorts : 0;
            credit = w.carried ? Math.min(8, Math.max(0, counted - w.quantityOf(y))) : 0;
        }
    }

    /** What is expected from a place on: worth, seller's worth, taken, short, made up. */
    static final class Hope {
        int x;
        Part[] of = new Part[5];
    }

    static final class Future {
        final Words w;
        final Map<Integer, Hope> known = new HashMap<>();

        Future(Words w) {
            this.w = w;
        }

        Hope best(int day, int counted, int made, int credit, int s) {
            int key = (((day * 21 + counted) * 13 + made) * 9 + credit) * 3 + s;
            Hope best = known.get(key);
            for (int x = 0; x <= 4 && !known.containsKey(key); x++) {
                if (w.may(day, x)) {
                    Hope h = taking(day, counted, made, credit, s, x);
                    if (best == null || h.of[0].compare(best.of[0]) > 0) {
                        best = h;
                    }
                }
            }
            known.put(key, best);
            return best;
        }

        Hope taking(int day, int counted, int made, int credit, int s, int x) {
            Hope h = new Hope();
            h.x = x;
            Arrays.fill(h.of, Part.ZERO);
            if (!w.notice) {
                add(h, day, counted, made, credit, s, 4);
            } else {
                for (int t = 0; t < 3; t++) {
                    if (w.chance[s][t] > 0) {
                        add(h, day, counted, made, credit, t, w.chance[s][t]);
                    }
                }
            }
            return h;
        }

        /** Adds what comes if the day's state is t, with so many chances of 4. */
        private void add(Hope h, int day, int counted, int made, int credit, int t, int of4) {
            Taking a = new Taking(w, day, counted, made, credit, t, h.x);
            long[] now = {a.gain, a.paid - 100L * w.cost * h.x, h.x, 0, a.madeUp};
            int[] next = {a.counted, a.made, credit};
            if ((day + 1) % w.days == 0) {
                End e = new End(w, day / w.days, a.counted, credit);
                now[0] -= e.paid;
                now[1] += e.paid;
                now[3] += e.shorts;
                next = new int[] {0, e.made, e.credit};
            }
            for (int i = 0; i < 5; i++) {
                Part p = Part.of(now[i]);
                if (day + 1 < w.total()) {
                    p = p.plus(behind(day + 1, next, t, i));
                }
                h.of[i] = h.of[i].plus(p.times(of4, 4));
            }
        }

        private Part behind(int day, int[] next, int t, int i) {
            if (w.notice) {
                return best(day, next[0], next[1], next[2], t).of[i];
            }
            Part sum = Part.ZERO;
            for (int u = 0; u < 3; u++) {
                if (w.chance[t][u] > 0) {
                    sum = sum.plus(best(day, next[0], next[1], next[2], u).of[i].times(w.chance[t][u], 4));
                }
            }
            return sum;
        }

        Hope first() {
            return best(0, 0, 0, 0, w.start);
        }
    }

    /** A text, read token by token. */
    static final class Text {
        static final List<String> LINES = List.of("years", "days", "quantity", "day", "paid", "base", "index",
            "surcharge", "made", "rest", "carried", "notice", "free", "cost", "price", "chance", "start");
        static final List<String> OTHERS = List.of("first", "last", "nobody", "seller", "buyer");

        static final class Fault extends Exception {
            private static final long serialVersionUID = 1L;
            final int kind;
            final int place;

            Fault(int kind, int place) {
                this.kind = kind;
                this.place = place;
            }
        }

        final String text;
        int at;
        int place;
        String token;
        final Words words = new Words();
        final List<String> told = new ArrayList<>();
        int lines;

        Text(String text) {
            this.text = text;
        }

        void next() throws Fault {
            while (at < text.length() && text.charAt(at) == ' ') {
                at++;
            }
            place = at;
            String rest = text.substring(at);
            if (rest.isEmpty()) {
                token = "";
                place = text.length();
                return;
            }
            String name = rest.replaceAll("(?s)^([a-z]*).*$", "$1");
            String number = rest.replaceAll("(?s)^([0-9]*).*$", "$1");
            token = !name.isEmpty() ? name : !number.isEmpty() ? number : rest.substring(0, 1);
            boolean known = LINES.contains(token) || OTHERS.contains(token);
            boolean figures = !number.isEmpty() && number.length() <= 3;
            if (!known && !figures && !token.equals(";")) {
                throw new Fault(1, place);
            }
            at += token.length();
        }

        int number(int low, int high) throws Fault {
            next();
            if (token.isEmpty() || !Character.isDigit(token.charAt(0))) {
                throw new Fault(2, place);
            }
            int n = Integer.parseInt(token);
            if (n < low || n > high) {
                throw new Fault(3, place);
            }
            return n;
        }

        void once(String what) throws Fault {
            if (told.contains(what)) {
                throw new Fault(4, place);
            }
            told.add(what);
        }

        int among(String... names) throws Fault {
            next();
            int i = Arrays.asList(names).indexOf(token);
            if (i < 0) {
                throw new Fault(2, place);
            }
            return i;
        }

        void read() throws Fault {
            next();
            while (!token.isEmpty()) {
                if (!LINES.contains(token)) {
                    throw new Fault(2, place);
                }
                line(token);
                next();
                if (!token.equals(";")) {
                    throw new Fault(2, place);
                }
                lines++;
                next();
            }
        }

        void line(String name) throws Fault {
            if (!List.of("price", "chance", "free").contains(name)) {
                once(name);
            }
            switch (name) {
                case "years" -> words.years = number(1, 4);
                case "days" -> words.days = number(1, 5);
                case "quantity" -> words.quantity = number(1, 16);
                case "day" -> {
                    words.least = number(0, 4);
                    words.most = number(words.least, 4);
                }
                case "paid" -> words.paid = number(0, 100);
                case "base" -> words.base = number(1, 60);
                case "index" -> words.index = number(0, 100);
                case "surcharge" -> words.surcharge = number(0, 20);
                case "made" -> words.made = 1 + among("first", "last");
                case "rest" -> words.rest = number(0, 60);
                case "carried" -> words.carried = true;
                case "notice" -> words.notice = true;
                case "free" -> {
                    int who = among("nobody", "seller", "buyer");
                    once("free " + who);
                    words.free[who] = true;
                }
                case "cost" -> words.cost = number(0, 60);
                case "price" -> {
                    int s = number(0, 2);
                    once("price " + s);
                    words.price[s] = number(1, 60);
                }
                case "chance" -> {
                    int s = number(0, 2);
                    once("chance " + s);
                    int a = number(0, 4);
                    int b = number(0, 4);
                    int c = number(0, 4);
                    if (a + b + c != 4) {
                        throw new Fault(3, place);
                    }
                    words.chance[s] = new int[] {a, b, c};
                }
                default -> words.start = number(0, 2);
            }
        }
    }

    String tape = "";
    int fault;
    Words w = new Words();
    Future future = new Future(w);
    final Map<String, Part> leftOut = new HashMap<>();
    List<Part> offered;
    final List<int[]> row = new ArrayList<>();
    final Object[] sheets = new Object[4];
    int torn;

    private void changed() {
        future = new Future(w);
        leftOut.clear();
        offered = null;
    }

    int feed(long v) {
        if (tape.length() + 8 > 320) {
            return FULL;
        }
        StringBuilder b = new StringBuilder(tape);
        for (int i = 7; i >= 0; i--) {
            b.append((char) (v >>> 8 * i & 0xff));
        }
        tape = b.toString();
        return tape.length();
    }

    int end(int n) {
        int had = tape.length();
        if (n < 0 || n > had) {
            return BAD;
        }
        tape = tape.substring(0, n);
        return had;
    }

    int page() {
        Text t = new Text(tape);
        tape = "";
        try {
            t.read();
        } catch (Text.Fault f) {
            fault = f.kind;
            return -10 - f.place;
        }
        fault = 0;
        w = t.words;
        row.clear();
        changed();
        return t.lines;
    }

    int told(int what) {
        int[] all = {w.years, w.days, w.quantity, w.least, w.most, w.paid, w.base, w.index, w.surcharge, w.made, w.rest,
            w.carried ? 1 : 0, w.notice ? 1 : 0, (w.free[0] ? 1 : 0) + (w.free[1] ? 2 : 0) + (w.free[2] ? 4 : 0),
            w.cost, w.start};
        if (what >= 0 && what < 16) {
            return all[what];
        }
        if (what >= 20 && what <= 22) {
            return w.price[what - 20];
        }
        return what >= 30 && what <= 38 ? w.chance[(what - 30) / 3][(what - 30) % 3] : BAD;
    }

    int shut(int day, int who) {
        if (day < 0 || day >= w.total() || who != NONE && (who < 0 || who > 2)) {
            return BAD;
        }
        Integer was = who == NONE ? w.shut.remove(day) : w.shut.put(day, who);
        changed();
        return was == null ? NONE : was;
    }

    int year(int y, int what) {
        if (y < 0 || y >= w.years || what < 0 || what > 2) {
            return BAD;
        }
        return new int[] {w.quantityOf(y), w.top(y), w.freeOnes(y)}[what];
    }

    int whose(int y, int what) {
        if (y < 0 || y >= w.years || what < 0 || what > 2) {
            return BAD;
        }
        boolean free = w.free[new int[] {1, 2, 0}[what]];
        return w.less(w.topAtFirst(), free ? w.shutOnes(y) : 0);
    }

    private boolean place(int day, int counted, int made, int credit, int s) {
        return in(day, w.total() - 1) && in(counted, 20) && in(made, 12) && in(credit, 8) && in(s, 2);
    }

    private static boolean in(int n, int high) {
        return n >= 0 && n <= high;
    }

    int takes(int day, int counted, int made, int credit, int s, int x, int what) {
        if (!place(day, counted, made, credit, s) || !in(x, 4) || !in(what, 3)) {
            return -1000000;
        }
        if (!w.may(day, x)) {
            return -1000002;
        }
        Taking t = new Taking(w, day, counted, made, credit, s, x);
        return new int[] {t.counted, t.made, t.paid, t.gain}[what];
    }

    int ends(int y, int counted, int credit, int what) {
        if (!in(y, w.years - 1) || !in(counted, 20) || !in(credit, 8) || !in(what, 3)) {
            return BAD;
        }
        End e = new End(w, y, counted, credit);
        return new int[] {e.shorts, e.paid, e.made, e.credit}[what];
    }

    int best(int day, int counted, int made, int credit, int s) {
        return place(day, counted, made, credit, s) ? future.best(day, counted, made, credit, s).x : BAD;
    }

    long worth(int day, int counted, int made, int credit, int s, int what) {
        if (!place(day, counted, made, credit, s) || !in(what, 1)) {
            return BAD_WORTH;
        }
        return future.best(day, counted, made, credit, s).of[0].part(what);
    }

    long worthOf(int day, int counted, int made, int credit, int s, int x, int what) {
        if (!place(day, counted, made, credit, s) || !in(what, 1) || !in(x, 4)) {
            return BAD_WORTH;
        }
        return w.may(day, x) ? future.taking(day, counted, made, credit, s, x).of[0].part(what) : STATE_WORTH;
    }

    long whole(int who, int what) {
        return in(who, 1) && in(what, 1) ? future.first().of[who].part(what) : BAD_WORTH;
    }

    long units(int what) {
        return in(what, 5) ? future.first().of[2 + what / 2].part(what % 2) : BAD;
    }

    long without(int word, int who, int what) {
        if (!in(word, 7) || !in(who, 1) || !in(what, 1)) {
            return BAD_WORTH;
        }
        String key = word + " " + who;
        if (!leftOut.containsKey(key)) {
            Words v = w.copy();
            switch (word) {
                case 0 -> v.paid = 0;
                case 1 -> v.index = 0;
                case 2 -> v.surcharge = 0;
                case 3 -> {
                    v.made = 0;
                    v.rest = 0;
                }
                case 4 -> v.carried = false;
                case 5 -> v.notice = false;
                case 6 -> v.free = new boolean[3];
                default -> v.least = 0;
            }
            leftOut.put(key, new Future(v).first().of[who].minus(future.first().of[who]));
        }
        return leftOut.get(key).part(what);
    }

    int jumps(int day, int made, int credit, int s, int what) {
        if (!place(day, 0, made, credit, s) || !in(what, 1)) {
            return BAD;
        }
        if (w.shut.containsKey(day)) {
            return STATE;
        }
        int neither = 0;
        int first = NONE;
        for (int counted = 20; counted >= 0; counted--) {
            int x = best(day, counted, made, credit, s);
            neither += x == w.least || x == w.most ? 0 : 1;
            first = x == best(day, 0, made, credit, s) ? first : counted;
        }
        return what == 0 ? neither : first;
    }

    long offers(int what) {
        if (!in(what, 4)) {
            return BAD_WORTH;
        }
        if (offered == null) {
            Hope now = future.first();
            int n = 0;
            Part most = null;
            Words chosen = w;
            for (int paid = w.paid - 20; paid <= w.paid + 20; paid += 20) {
                for (int base = w.base - 1; base <= w.base + 1; base++) {
                    if (!in(paid, 100) || base == 0 || base > 60) {
                        continue;
                    }
                    Words v = w.copy();
                    v.paid = paid;
                    v.base = base;
                    Hope h = new Future(v).first();
                    if (h.of[0].compare(now.of[0]) >= 0) {
                        n++;
                        if (most == null || h.of[1].compare(most) > 0) {
                            most = h.of[1];
                            chosen = v;
                        }
                    }
                }
            }
            offered = List.of(Part.of(n), Part.of(chosen.paid), Part.of(chosen.base), most.minus(now.of[1]));
        }
        return offered.get(Math.min(what, 3)).part(what == 4 ? 1 : 0);
    }

    int day(int s, int x) {
        if (!in(s, 2) || !in(x, 9)) {
            return BAD;
        }
        if (row.size() == w.total()) {
            return FULL;
        }
        row.add(new int[] {s, x});
        return row.size();
    }

    int back() {
        if (row.isEmpty()) {
            return NONE;
        }
        row.remove(row.size() - 1);
        return row.size();
    }

    /** Days, first that may not be, counted, made, credit, paid, gain, short; paid, made up on the last day. */
    private int[] along(List<int[]> takings) {
        int[] a = {takings.size(), NONE, 0, 0, 0, 0, 0, 0, 0, 0};
        for (int day = 0; day < takings.size(); day++) {
            int x = takings.get(day)[1];
            if (a[1] == NONE && !w.may(day, x)) {
                a[1] = day;
            }
            Taking t = new Taking(w, day, a[2], a[3], a[4], takings.get(day)[0], x);
            a[2] = t.counted;
            a[3] = t.made;
            a[5] += t.paid;
            a[6] += t.gain;
            a[8] = t.paid;
            a[9] = t.madeUp;
            if (day % w.days == w.days - 1) {
                End e = new End(w, day / w.days, a[2], a[4]);
                a[5] += e.paid;
                a[6] -= e.paid;
                a[7] += e.shorts;
                if (day + 1 < w.total()) {
                    a[2] = 0;
                    a[3] = e.made;
                    a[4] = e.credit;
                }
            }
        }
        return a;
    }

    int row(int what) {
        return in(what, 7) ? along(row)[what] : -1000000;
    }

    int rowOf(int day, int what) {
        if (!in(day, row.size() - 1) || !in(what, 3)) {
            return BAD;
        }
        return what < 2 ? row.get(day)[what] : along(row.subList(0, day + 1))[what + 6];
    }

    private int known(List<int[]> of, int day) {
        if (!w.notice) {
            return of.get(day)[0];
        }
        return day == 0 ? w.start : of.get(day - 1)[0];
    }

    int knew(int what) {
        if (!in(what, 1)) {
            return -1000000;
        }
        List<int[]> taken = new ArrayList<>();
        for (int day = 0; day < row.size(); day++) {
            int[] a = along(taken);
            taken.add(new int[] {row.get(day)[0], best(day, a[2], a[3], a[4], known(row, day))});
        }
        return along(taken)[6] - (what == 1 ? row(6) : 0);
    }

    int came(int what) {
        if (!in(what, 1)) {
            return -1000000;
        }
        if (row.size() != w.total() || what == 1 && row.size() > 13) {
            return -1000002;
        }
        Map<Integer, long[]> seen = new HashMap<>();
        return (int) came(0, 0, 0, 0, seen)[what];
    }

    /** The greatest gain from a place on, and the least figures that have it. */
    private long[] came(int day, int counted, int made, int credit, Map<Integer, long[]> seen) {
        if (day == w.total()) {
            return new long[] {0, 0};
        }
        int key = ((day * 21 + counted) * 13 + made) * 9 + credit;
        if (seen.containsKey(key)) {
            return seen.get(key);
        }
        long[] most = null;
        long unit = Math.round(Math.pow(5, w.total() - 1 - day));
        for (int x = 4; x >= 0; x--) {
            if (!w.may(day, x)) {
                continue;
            }
            Taking t = new Taking(w, day, counted, made, credit, row.get(day)[0], x);
            long[] rest;
            if ((day + 1) % w.days == 0) {
                End e = new End(w, day / w.days, t.counted, credit);
                rest = came(day + 1, 0, e.made, e.credit, seen).clone();
                rest[0] -= e.paid;
            } else {
                rest = came(day + 1, t.counted, t.made, credit, seen).clone();
            }
            rest[0] += t.gain;
            rest[1] += unit * x;
            if (most == null || rest[0] >= most[0]) {
                most = rest;
            }
        }
        seen.put(key, most);
        return most;
    }

    int draw(int seed) {
        row.clear();
        int state = w.start;
        int now = seed;
        for (int day = 0; day < w.total(); day++) {
            int[] a = along(row);
            if (w.notice || day > 0) {
                now = now * 1103515245 + 12345;
                int left = (now >> 16 & 32767) % 4;
                int from = state;
                state = 0;
                while (left >= w.chance[from][state]) {
                    left -= w.chance[from][state];
                    state++;
                }
            }
            row.add(new int[] {state, 0});
            row.get(day)[1] = best(day, a[2], a[3], a[4], known(row, day));
        }
        return row(6);
    }

    int sheet(int k, int lane, int n) {
        if (!in(k, 3) || !in(lane, 2) || n > 48) {
            return BAD;
        }
        try {
            sheets[k] = lane == 0 ? new byte[n] : lane == 1 ? new short[n] : (Object) new int[n];
        } catch (NegativeArraySizeException e) {
            return -14;
        }
        return 1;
    }

    int lay(int k, int i, int v) {
        if (!in(k, 3)) {
            return BAD;
        }
        try {
            if (sheets[k] instanceof byte[] b) {
                b[i] = (byte) v;
            } else if (sheets[k] instanceof short[] s) {
                s[i] = (short) v;
            } else {
                ((int[]) sheets[k])[i] = v;
            }
        } catch (NullPointerException e) {
            return -11;
        } catch (ArrayIndexOutOfBoundsException e) {
            return -12;
        }
        return 1;
    }

    private int cell(Object sheet, int lane, int i) {
        return lane == 0 ? ((byte[]) sheet)[i] : lane == 1 ? ((short[]) sheet)[i] : ((int[]) sheet)[i];
    }

    int read(int k, int lane, int f, int n) {
        if (!in(k, 3) || !in(lane, 2) || !in(n, 20)) {
            return BAD;
        }
        int had = row.size();
        int found = 0;
        int i = 0;
        int refused = 0;
        try {
            for (; i < n && refused == 0; i++) {
                int s = cell(sheets[k], lane, f + 2 * i);
                int x = cell(sheets[k], lane, f + 2 * i + 1);
                int now = day(s, x);
                refused = now == BAD ? -20 - i : now == FULL ? FULL : 0;
            }
        } catch (NullPointerException e) {
            found = 1;
        } catch (ArrayIndexOutOfBoundsException e) {
            found = 2;
        } catch (ClassCastException e) {
            found = 3;
        }
        if (refused != 0) {
            while (row.size() > had) {
                back();
            }
            return refused;
        }
        torn = found;
        return row.size() - had;
    }

    int count(int what) {
        switch (what) {
            case 0:
                return w.total();
            case 1:
                return w.shut.size();
            case 2:
                return row.size();
            case 3:
                return tape.length();
            case 4:
                return sheets[0] == null ? NONE : java.lang.reflect.Array.getLength(sheets[0]);
            default:
                return BAD;
        }
    }
}
