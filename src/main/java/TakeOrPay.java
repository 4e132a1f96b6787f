/**
 * A gas contract of the kind "take it or pay": the page that tells it, what to take day by day,
 * what the page and each word in it is worth to both sides, past rows of takings and drawn ones.
 *
 * <p>The numbers that the public methods take and answer are those of the document; README.md
 * tells how the parts of this file hang together.
 */
public final class TakeOrPay {
    public static final int BAD = -1, STATE = -2, FULL = -3, NONE = -4;

    private static final int BAD_MONEY = -1000000;
    private static final int STATE_MONEY = -1000002;
    private static final long BAD_WORTH = -9000000000000000001L;
    private static final long STATE_WORTH = -9000000000000000002L;

    private static final int MOST_YEARS = 4;
    private static final int MOST_DAYS = 20;
    private static final int MOST_COUNTED = 20;
    private static final int MOST_MADE = 12;
    private static final int MOST_CREDIT = 8;
    private static final int MOST_TAKEN = 4;
    private static final int MOST_TOLD_TAKEN = 9;
    private static final int MOST_READ = 20;
    private static final int FIGURED_DAYS = 13;
    private static final int STATES = 3;
    private static final int SHEETS = 4;
    private static final int LANES = 3;
    private static final int WORDS = 8;

    // What a page tells, numbered as told() asks for it.
    private static final int YEARS = 0;
    private static final int DAYS = 1;
    private static final int QUANTITY = 2;
    private static final int LEAST = 3;
    private static final int MOST = 4;
    private static final int PAID = 5;
    private static final int BASE = 6;
    private static final int INDEX = 7;
    private static final int SURCHARGE = 8;
    private static final int MADE_UP = 9;
    private static final int REST = 10;
    private static final int CARRIED = 11;
    private static final int NOTICE = 12;
    private static final int FREE = 13;
    private static final int COST = 14;
    private static final int START = 15;
    private static final int PRICE = 20;
    private static final int CHANCE = 30;
    private static final int TERMS = 39;

    private static final int MADE_FIRST = 1;
    private static final int MADE_LAST = 2;

    private static final int NULL_FAULT = 1;
    private static final int INDEX_FAULT = 2;
    private static final int CAST_FAULT = 3;
    private static final int SIZE_FAULT = 4;

    private final Page contract = new Page();
    private final Tape tape = new Tape();
    private final Reader reader = new Reader(tape);
    private final Row past = new Row();
    private final Walk walk = new Walk();
    private final Move move = new Move();
    private final Figures figures = new Figures(contract, past);
    private final Sheet[] sheets = new Sheet[SHEETS];
    private int tornFault;

    public TakeOrPay() {
        for (int k = 0; k < SHEETS; k++) {
            sheets[k] = new Sheet();
        }
    }

    // ---- the page

    public int feed(long v) {
        return tape.append(v) ? tape.length : FULL;
    }

    public int end(int n) {
        if (n < 0 || n > tape.length) {
            return BAD;
        }
        int had = tape.length;
        tape.length = n;
        return had;
    }

    public int page() {
        int lines = reader.readLines();
        tape.length = 0;
        if (reader.fault != 0) {
            return -10 - reader.faultPlace;
        }
        contract.copyTerms(reader.draft);
        contract.openAllDays();
        past.size = 0;
        figures.forgetPage();
        return lines;
    }

    public int fault() {
        return reader.fault;
    }

    public int told(int what) {
        boolean word = what >= YEARS && what <= START;
        boolean price = what >= PRICE && what < PRICE + STATES;
        boolean chance = what >= CHANCE && what < TERMS;
        return word || price || chance ? contract.terms[what] : BAD;
    }

    public int shut(int day, int who) {
        if (!contract.hasDay(day) || (who != NONE && !isState(who))) {
            return BAD;
        }
        int was = contract.shutBy[day];
        if (was != who) {
            contract.shutBy[day] = who;
            contract.reckon();
            figures.forgetPage();
        }
        return was;
    }

    public int year(int y, int what) {
        if (!contract.hasYear(y) || what < 0 || what > 2) {
            return BAD;
        }
        if (what == 2) {
            return contract.freeOnes(y);
        }
        return what == 0 ? contract.quantities[y] : contract.tops[y];
    }

    public int whose(int y, int what) {
        if (!contract.hasYear(y) || what < 0 || what > 2) {
            return BAD;
        }
        int who = what == 0 ? 1 : what == 1 ? 2 : 0;
        int free = contract.isFree(who) ? contract.shutOnes(y) : 0;
        return contract.lessFree(contract.fullTop(), free);
    }

    // ---- what may be, one day

    public int takes(int day, int counted, int made, int credit, int s, int x, int what) {
        boolean asked = x >= 0 && x <= MOST_TAKEN && what >= 0 && what <= 3;
        if (!asked || !isPlace(day, counted, made, credit, s)) {
            return BAD_MONEY;
        }
        if (!contract.mayTake(day, x)) {
            return STATE_MONEY;
        }
        move.take(contract, day, counted, made, credit, x);
        switch (what) {
            case 0:
                return move.counted;
            case 1:
                return move.made;
            case 2:
                return move.paidFor(contract, s);
            default:
                return move.gained(contract, s);
        }
    }

    public int ends(int y, int counted, int credit, int what) {
        boolean asked = isCounted(counted) && isCredit(credit) && what >= 0 && what <= 3;
        if (!asked || !contract.hasYear(y)) {
            return BAD;
        }
        move.stand(counted, 0, credit);
        move.close(contract, contract.lastDayOf(y));
        switch (what) {
            case 0:
                return move.shorts;
            case 1:
                return move.paidShort;
            case 2:
                return move.made;
            default:
                return move.credit;
        }
    }

    // ---- the best

    public int best(int day, int counted, int made, int credit, int s) {
        if (!isPlace(day, counted, made, credit, s)) {
            return BAD;
        }
        return figures.bestFrom(day, counted, made, credit).choose(day, counted, made, credit, s);
    }

    public long worth(int day, int counted, int made, int credit, int s, int what) {
        if (!isPlace(day, counted, made, credit, s) || !isPart(what)) {
            return BAD_WORTH;
        }
        Best by = figures.bestFrom(day, counted, made, credit);
        by.choose(day, counted, made, credit, s);
        return fraction(by.chosenWorth, contract.total - day, what);
    }

    public long worthOf(int day, int counted, int made, int credit, int s, int x, int what) {
        boolean asked = x >= 0 && x <= MOST_TAKEN && isPart(what);
        if (!asked || !isPlace(day, counted, made, credit, s)) {
            return BAD_WORTH;
        }
        if (!contract.mayTake(day, x)) {
            return STATE_WORTH;
        }
        Best by = figures.bestFrom(day, counted, made, credit);
        move.take(contract, day, counted, made, credit, x);
        move.close(contract, day);
        return fraction(by.worthMade(move, day, s), contract.total - day, what);
    }

    public long whole(int who, int what) {
        if (who < 0 || who > 1 || !isPart(what)) {
            return BAD_WORTH;
        }
        figures.reckonWhole();
        return fraction(figures.wholes[who], contract.total, what);
    }

    public long units(int what) {
        if (what < 0 || what > 5) {
            return BAD;
        }
        figures.reckonWhole();
        return fraction(figures.wholes[Figures.TAKEN + what / 2], contract.total, what % 2);
    }

    public long without(int word, int who, int what) {
        if (word < 0 || word >= WORDS || who < 0 || who > 1 || !isPart(what)) {
            return BAD_WORTH;
        }
        figures.reckonWithout(word);
        return fraction(figures.leftOut[2 * word + who], contract.total, what);
    }

    public int jumps(int day, int made, int credit, int s, int what) {
        if (!isPlace(day, 0, made, credit, s) || !isPart(what)) {
            return BAD;
        }
        if (contract.shutBy[day] != NONE) {
            return STATE;
        }
        return what == 0 ? betweens(day, made, credit, s) : firstJump(day, made, credit, s);
    }

    public long offers(int what) {
        if (what < 0 || what > 4) {
            return BAD_WORTH;
        }
        figures.reckonOffers();
        switch (what) {
            case 0:
                return figures.offersHeld;
            case 1:
                return figures.offerPaid;
            case 2:
                return figures.offerBase;
            default:
                return fraction(figures.offerMore, contract.total, what - 3);
        }
    }

    // ---- the row

    public int day(int s, int x) {
        if (!isToldDay(s, x)) {
            return BAD;
        }
        if (past.size >= contract.total) {
            return FULL;
        }
        past.add(s, x);
        figures.forgetRow();
        return past.size;
    }

    public int back() {
        if (past.size == 0) {
            return NONE;
        }
        past.size--;
        figures.forgetRow();
        return past.size;
    }

    public int row(int what) {
        if (what < 0 || what > 7) {
            return BAD_MONEY;
        }
        walkRow(past.size);
        switch (what) {
            case 0:
                return past.size;
            case 1:
                return walk.firstWrong;
            case 2:
                return walk.counted;
            case 3:
                return walk.made;
            case 4:
                return walk.credit;
            case 5:
                return walk.paid;
            case 6:
                return walk.gain;
            default:
                return walk.shorts;
        }
    }

    public int rowOf(int day, int what) {
        if (day < 0 || day >= past.size || what < 0 || what > 3) {
            return BAD;
        }
        if (what == 0) {
            return past.states[day];
        }
        if (what == 1) {
            return past.takings[day];
        }
        walkRow(day + 1);
        return what == 2 ? walk.paidThatDay : walk.madeUpThatDay;
    }

    public int knew(int what) {
        if (!isPart(what)) {
            return BAD_MONEY;
        }
        walkByBest();
        int byBest = walk.gain;
        if (what == 0) {
            return byBest;
        }
        walkRow(past.size);
        return byBest - walk.gain;
    }

    public int came(int what) {
        if (!isPart(what)) {
            return BAD_MONEY;
        }
        boolean whole = past.size == contract.total;
        if (!whole || (what == 1 && contract.total > FIGURED_DAYS)) {
            return STATE_MONEY;
        }
        figures.reckonCame();
        return what == 0 ? figures.cameGain : figures.cameTakings;
    }

    public int draw(int seed) {
        Best by = figures.bestFrom(0, 0, 0, 0);
        boolean notice = contract.terms[NOTICE] == 1;
        int now = seed;
        int state = contract.terms[START];
        past.size = 0;
        walk.begin();
        for (int day = 0; day < contract.total; day++) {
            int before = state;
            if (notice || day > 0) {
                now = now * 1103515245 + 12345;
                state = contract.stateBehind(before, ((now >>> 16) & 0x7fff) % 4);
            }
            int known = notice ? before : state;
            int x = by.choose(day, walk.counted, walk.made, walk.credit, known);
            past.add(state, x);
            walk.go(contract, state, x);
        }
        figures.forgetRow();
        return walk.gain;
    }

    // ---- sheets

    public int sheet(int k, int lane, int n) {
        if (!isSheet(k) || !isLane(lane) || n > Sheet.MOST_CELLS) {
            return BAD;
        }
        if (n < 0) {
            return -10 - SIZE_FAULT;
        }
        sheets[k].renew(lane, n);
        return 1;
    }

    public int lay(int k, int i, int v) {
        if (!isSheet(k)) {
            return BAD;
        }
        if (sheets[k].lane == NONE) {
            return -10 - NULL_FAULT;
        }
        if (!sheets[k].has(i)) {
            return -10 - INDEX_FAULT;
        }
        sheets[k].put(i, v);
        return 1;
    }

    public int read(int k, int lane, int f, int n) {
        if (!isSheet(k) || !isLane(lane) || n < 0 || n > MOST_READ) {
            return BAD;
        }
        Sheet from = sheets[k];
        int had = past.size;
        int found = n == 0 ? 0 : from.faultAs(lane);
        int refusal = 0;
        for (int i = 0; i < n && found == 0 && refusal == 0; i++) {
            int at = f + 2 * i;
            if (!from.has(at) || !from.has(at + 1)) {
                found = INDEX_FAULT;
            } else {
                refusal = addRead(from.cells[at], from.cells[at + 1], i);
            }
        }
        if (refusal != 0) {
            past.size = had;
            return refusal;
        }
        figures.forgetRow();
        tornFault = found;
        return past.size - had;
    }

    public int torn() {
        return tornFault;
    }

    public int count(int what) {
        switch (what) {
            case 0:
                return contract.total;
            case 1:
                return contract.allShutOnes();
            case 2:
                return past.size;
            case 3:
                return tape.length;
            case 4:
                return sheets[0].lane == NONE ? NONE : sheets[0].size;
            default:
                return BAD;
        }
    }

    // ---- what the calls share

    private static boolean isState(int s) {
        return s >= 0 && s < STATES;
    }

    private static boolean isCounted(int counted) {
        return counted >= 0 && counted <= MOST_COUNTED;
    }

    private static boolean isCredit(int credit) {
        return credit >= 0 && credit <= MOST_CREDIT;
    }

    private static boolean isPart(int what) {
        return what == 0 || what == 1;
    }

    private static boolean isSheet(int k) {
        return k >= 0 && k < SHEETS;
    }

    private static boolean isLane(int lane) {
        return lane >= 0 && lane < LANES;
    }

    private static boolean isToldDay(int s, int x) {
        return isState(s) && x >= 0 && x <= MOST_TOLD_TAKEN;
    }

    private boolean isPlace(int day, int counted, int made, int credit, int s) {
        boolean amounts = isCounted(counted) && made >= 0 && made <= MOST_MADE && isCredit(credit);
        return contract.hasDay(day) && amounts && isState(s);
    }

    /** The numerator (what 0) or denominator of so many parts of 4 to the power of days. */
    private static long fraction(long parts, int days, int what) {
        long numerator = parts;
        int twos = 2 * days;
        while (twos > 0 && (numerator & 1) == 0) {
            numerator >>= 1;
            twos--;
        }
        return what == 0 ? numerator : 1L << twos;
    }

    private int betweens(int day, int made, int credit, int s) {
        int found = 0;
        for (int counted = 0; counted <= MOST_COUNTED; counted++) {
            int x = best(day, counted, made, credit, s);
            if (x != contract.terms[LEAST] && x != contract.terms[MOST]) {
                found++;
            }
        }
        return found;
    }

    private int firstJump(int day, int made, int credit, int s) {
        int first = best(day, 0, made, credit, s);
        for (int counted = 1; counted <= MOST_COUNTED; counted++) {
            if (best(day, counted, made, credit, s) != first) {
                return counted;
            }
        }
        return NONE;
    }

    private void walkRow(int days) {
        walk.begin();
        for (int day = 0; day < days; day++) {
            walk.go(contract, past.states[day], past.takings[day]);
        }
    }

    private void walkByBest() {
        Best by = figures.bestFrom(0, 0, 0, 0);
        boolean notice = contract.terms[NOTICE] == 1;
        int ahead = contract.terms[START];
        walk.begin();
        for (int day = 0; day < past.size; day++) {
            int state = past.states[day];
            int known = notice ? ahead : state;
            walk.go(contract, state, by.choose(day, walk.counted, walk.made, walk.credit, known));
            ahead = state;
        }
    }

    /** Answers 0, or what read() answers if the day that it read as its i-th is refused. */
    private int addRead(int s, int x, int i) {
        if (!isToldDay(s, x)) {
            return -20 - i;
        }
        if (past.size >= contract.total) {
            return FULL;
        }
        past.add(s, x);
        return 0;
    }

    /** What a text tells, and the days on which the pipe is shut. */
    private static final class Page {
        private static final int[] AT_FIRST = {
            2, 4, 8, 0, 3, 80, 20, 0, 0, 0, 0, 0, 0, 0, 10, 1, 0, 0, 0, 0,
            15, 20, 30, 0, 0, 0, 0, 0, 0, 0,
            2, 1, 1, 1, 2, 1, 1, 1, 2
        };
        private static final int[] LEFT_OUT = {
            PAID, INDEX, SURCHARGE, MADE_UP, CARRIED, NOTICE, FREE, LEAST
        };
        private static final int MOST_TOP = 12;

        private final int[] terms = new int[TERMS];
        private final int[] shutBy = new int[MOST_DAYS];
        // The rest follows from these; it is kept because each step of a search asks for it.
        private final int[] quantities = new int[MOST_YEARS];
        private final int[] tops = new int[MOST_YEARS];
        private final int[] yearOf = new int[MOST_DAYS];
        private final boolean[] closes = new boolean[MOST_DAYS];
        private int total;

        private Page() {
            setAtFirst();
            openAllDays();
        }

        private void setAtFirst() {
            System.arraycopy(AT_FIRST, 0, terms, 0, TERMS);
        }

        private void copyTerms(Page from) {
            System.arraycopy(from.terms, 0, terms, 0, TERMS);
        }

        /** The terms and shut days of another; what follows from them is to be reckoned yet. */
        private void copyAll(Page from) {
            copyTerms(from);
            System.arraycopy(from.shutBy, 0, shutBy, 0, MOST_DAYS);
        }

        private void openAllDays() {
            for (int day = 0; day < MOST_DAYS; day++) {
                shutBy[day] = NONE;
            }
            reckon();
        }

        private void reckon() {
            total = 0;
            for (int y = 0; y < terms[YEARS]; y++) {
                for (int i = 1; i <= terms[DAYS]; i++) {
                    yearOf[total] = y;
                    closes[total] = i == terms[DAYS];
                    total++;
                }
            }
            for (int y = 0; y < terms[YEARS]; y++) {
                int free = freeOnes(y);
                quantities[y] = lessFree(terms[QUANTITY], free);
                tops[y] = lessFree(fullTop(), free);
            }
        }

        private boolean hasDay(int day) {
            return day >= 0 && day < total;
        }

        private boolean hasYear(int y) {
            return y >= 0 && y < terms[YEARS];
        }

        private int lastDayOf(int y) {
            return (y + 1) * terms[DAYS] - 1;
        }

        private boolean isFree(int who) {
            return ((terms[FREE] >> who) & 1) == 1;
        }

        private int fullTop() {
            return Math.min(MOST_TOP, terms[QUANTITY] * terms[PAID] / 100);
        }

        private int lessFree(int amount, int free) {
            int days = terms[DAYS];
            return days > 0 ? amount - amount * free / days : amount;
        }

        private int freeOnes(int y) {
            int found = 0;
            for (int day = 0; day < total; day++) {
                if (yearOf[day] == y && shutBy[day] != NONE && isFree(shutBy[day])) {
                    found++;
                }
            }
            return found;
        }

        private int shutOnes(int y) {
            int found = 0;
            for (int day = 0; day < total; day++) {
                if (yearOf[day] == y && shutBy[day] != NONE) {
                    found++;
                }
            }
            return found;
        }

        private int allShutOnes() {
            int found = 0;
            for (int y = 0; y < terms[YEARS]; y++) {
                found += shutOnes(y);
            }
            return found;
        }

        private int least(int day) {
            return shutBy[day] == NONE ? terms[LEAST] : 0;
        }

        private int most(int day) {
            return shutBy[day] == NONE ? terms[MOST] : 0;
        }

        private boolean mayTake(int day, int x) {
            return x >= least(day) && x <= most(day);
        }

        /** What a counted unit costs, of a price that is told in so many parts of a coin. */
        private int unitPrice(int price, int parts) {
            return parts * terms[BASE] * (100 - terms[INDEX]) + price * terms[INDEX];
        }

        private int chance(int from, int to) {
            return terms[CHANCE + STATES * from + to];
        }

        /** What the price of the day behind a state is expected to be, four times. */
        private int fourthsBehind(int s) {
            int sum = 0;
            for (int t = 0; t < STATES; t++) {
                sum += chance(s, t) * terms[PRICE + t];
            }
            return sum;
        }

        private int stateBehind(int state, int drawn) {
            if (drawn < chance(state, 0)) {
                return 0;
            }
            return drawn < chance(state, 0) + chance(state, 1) ? 1 : 2;
        }

        /** As if a word (numbered as without() asks for it) was not told. */
        private void leaveOut(int word) {
            terms[LEFT_OUT[word]] = 0;
            if (LEFT_OUT[word] == MADE_UP) {
                terms[REST] = 0;
            }
            reckon();
        }
    }

    /** The bytes that were fed, and their tokens one behind another. */
    private static final class Tape {
        private static final int MOST_BYTES = 320;
        private static final int MOST_FIGURES = 3;

        private static final int NO_TOKEN = 0;
        private static final int NAME = 1;
        private static final int NUMBER = 2;
        private static final int SIGN = 3;
        private static final int END = 4;

        // A name's number is its place in this row, each with a blank behind it.
        private static final String NAMES =
            "years days quantity day paid base index surcharge made rest carried notice free cost price chance start first last nobody seller buyer ";

        private final byte[] bytes = new byte[MOST_BYTES];
        private int length;
        private int next;
        // The token that was read last: its kind, its number (of a name: in NAMES), its first byte.
        private int kind;
        private int value;
        private int place;

        private boolean append(long v) {
            if (length + 8 > MOST_BYTES) {
                return false;
            }
            for (int shift = 56; shift >= 0; shift -= 8) {
                bytes[length] = (byte) (v >> shift);
                length++;
            }
            return true;
        }

        /** The next token becomes the one at hand. */
        private void readToken() {
            while (next < length && bytes[next] == ' ') {
                next++;
            }
            place = next;
            value = 0;
            if (next >= length) {
                kind = END;
            } else if (isLetter(next)) {
                readName();
            } else if (isFigure(next)) {
                readNumber();
            } else {
                kind = bytes[next] == ';' ? SIGN : NO_TOKEN;
                next++;
            }
        }

        private boolean isLetter(int at) {
            return bytes[at] >= 'a' && bytes[at] <= 'z';
        }

        private boolean isFigure(int at) {
            return bytes[at] >= '0' && bytes[at] <= '9';
        }

        private void readName() {
            while (next < length && isLetter(next)) {
                next++;
            }
            value = nameNumber();
            kind = value == NONE ? NO_TOKEN : NAME;
        }

        private void readNumber() {
            while (next < length && isFigure(next)) {
                // A number that is too long is no token: its value need not be kept.
                value = next - place < MOST_FIGURES ? 10 * value + bytes[next] - '0' : value;
                next++;
            }
            kind = next - place > MOST_FIGURES ? NO_TOKEN : NUMBER;
        }

        private int nameNumber() {
            int number = 0;
            int letters = 0;
            boolean alike = true;
            for (int i = 0; i < NAMES.length(); i++) {
                char sign = NAMES.charAt(i);
                if (sign != ' ') {
                    int at = place + letters;
                    alike = alike && at < next && bytes[at] == sign;
                    letters++;
                } else if (alike && letters == next - place) {
                    return number;
                } else {
                    number++;
                    letters = 0;
                    alike = true;
                }
            }
            return NONE;
        }
    }

    /** Takes the tokens of a page one by one into a draft, up to the first fault. */
    private static final class Reader {
        private static final int NOT_A_TOKEN = 1;
        private static final int MISPLACED = 2;
        private static final int OUT_OF_BOUNDS = 3;
        private static final int TOLD_ALREADY = 4;

        // Names by their numbers on the tape: those whose lines are not one number in bounds.
        private static final int DAY_NAME = 3;
        private static final int MADE_NAME = 8;
        private static final int FREE_NAME = 12;
        private static final int PRICE_NAME = 14;
        private static final int CHANCE_NAME = 15;
        private static final int FIRST_NAME = 17;
        private static final int NOBODY_NAME = 19;

        // By the number of a line's name: the term that it tells (its first one), how many
        // tokens stand between its name and its end, the bounds of its numbers.
        private static final int[] TERM = {
            YEARS, DAYS, QUANTITY, LEAST, PAID, BASE, INDEX, SURCHARGE, MADE_UP,
            REST, CARRIED, NOTICE, FREE, COST, PRICE, CHANCE, START
        };
        private static final int[] SLOTS = {1, 1, 1, 2, 1, 1, 1, 1, 1, 1, 0, 0, 1, 1, 2, 4, 1};
        private static final int[] LOW = {1, 1, 1, 0, 0, 1, 0, 0, 0, 0, 0, 0, 0, 0, 1, 0, 0};
        private static final int[] HIGH = {4, 5, 16, 4, 100, 60, 100, 20, 0, 60, 0, 0, 0, 60, 60, 4, 2};
        private static final int LINES = 17;

        // Bits of what was told: the names first, then these.
        private static final int PRICE_BIT = 17;
        private static final int CHANCE_BIT = 20;
        private static final int FREE_BIT = 23;

        private final Tape tape;
        private final Page draft = new Page();
        private int toldBits;
        private int fault;
        private int faultPlace;
        // The line at hand (NONE between two), how much of it was taken, the term that is next.
        private int line;
        private int slot;
        private int term;

        private Reader(Tape tape) {
            this.tape = tape;
        }

        /** How many lines there are; or a fault is left in its field. */
        private int readLines() {
            draft.setAtFirst();
            toldBits = 0;
            fault = 0;
            line = NONE;
            int lines = 0;
            tape.next = 0;
            tape.readToken();
            for (int i = 0; i < Tape.MOST_BYTES && tape.kind != Tape.END && fault == 0; i++) {
                takeToken();
                if (fault == 0) {
                    lines += tape.kind == Tape.SIGN ? 1 : 0;
                    tape.readToken();
                }
            }
            if (line != NONE) {
                fail(MISPLACED);
            }
            return lines;
        }

        private void fail(int kind) {
            if (fault == 0) {
                fault = kind;
                faultPlace = tape.place;
            }
        }

        private void takeToken() {
            if (tape.kind == Tape.NO_TOKEN) {
                fail(NOT_A_TOKEN);
            } else if (line == NONE) {
                takeLineName();
            } else if (slot == SLOTS[line]) {
                takeSign();
            } else if (line == MADE_NAME) {
                takeHow();
            } else if (line == FREE_NAME) {
                takeWho();
            } else {
                takeNumber();
            }
        }

        private void markTold(int bit) {
            if ((toldBits >> bit & 1) == 1) {
                fail(TOLD_ALREADY);
            }
            toldBits |= 1 << bit;
        }

        private void takeLineName() {
            if (tape.kind != Tape.NAME || tape.value >= LINES) {
                fail(MISPLACED);
                return;
            }
            line = tape.value;
            slot = 0;
            term = TERM[line];
            if (line != PRICE_NAME && line != CHANCE_NAME && line != FREE_NAME) {
                markTold(line);
            }
            if (SLOTS[line] == 0) {
                draft.terms[term] = 1;
            }
        }

        private void takeSign() {
            if (tape.kind != Tape.SIGN) {
                fail(MISPLACED);
            }
            line = NONE;
        }

        /** Whether the token at hand is one of so many names from the first on. */
        private boolean isName(int first, int many) {
            return tape.kind == Tape.NAME && tape.value >= first && tape.value < first + many;
        }

        private void takeHow() {
            if (!isName(FIRST_NAME, 2)) {
                fail(MISPLACED);
                return;
            }
            draft.terms[MADE_UP] = tape.value - FIRST_NAME + MADE_FIRST;
            slot++;
        }

        private void takeWho() {
            if (!isName(NOBODY_NAME, 3)) {
                fail(MISPLACED);
                return;
            }
            int who = tape.value - NOBODY_NAME;
            markTold(FREE_BIT + who);
            draft.terms[FREE] |= 1 << who;
            slot++;
        }

        private void takeNumber() {
            boolean ofState = slot == 0 && (line == PRICE_NAME || line == CHANCE_NAME);
            int high = ofState ? STATES - 1 : HIGH[line];
            int low = ofState ? 0 : LOW[line];
            if (line == DAY_NAME && slot == 1) {
                low = draft.terms[LEAST];
            }
            if (tape.kind != Tape.NUMBER) {
                fail(MISPLACED);
            } else if (tape.value < low || tape.value > high || !fitsChances()) {
                fail(OUT_OF_BOUNDS);
            } else if (ofState) {
                takeState();
            } else {
                draft.terms[term] = tape.value;
                term++;
            }
            slot++;
        }

        /** The last number of a line of chances makes them 4 in sum. */
        private boolean fitsChances() {
            boolean last = line == CHANCE_NAME && slot == STATES;
            return !last || draft.terms[term - 2] + draft.terms[term - 1] + tape.value == 4;
        }

        private void takeState() {
            boolean price = line == PRICE_NAME;
            markTold((price ? PRICE_BIT : CHANCE_BIT) + tape.value);
            term += price ? tape.value : STATES * tape.value;
        }
    }

    /** One taking on a day, and a year's end: what stands behind it and what is paid for it. */
    private static final class Move {
        private int x;
        private int madeUp;
        private int newlyCounted;
        private int counted;
        private int made;
        private int credit;
        private int shorts;
        // What is paid whatever the price next door is, without and for SHORT.
        private int flat;
        private int paidShort;

        private void stand(int countedNow, int madeNow, int creditNow) {
            counted = countedNow;
            made = madeNow;
            credit = creditNow;
        }

        private void take(Page page, int day, int countedAhead, int madeAhead, int creditAhead, int taken) {
            int y = page.yearOf[day];
            int how = page.terms[MADE_UP];
            int open = Math.max(0, page.tops[y] - creditAhead - countedAhead);
            int countedFirst = how == MADE_LAST ? Math.min(taken, open) : 0;
            x = taken;
            madeUp = how == 0 ? 0 : Math.min(taken - countedFirst, madeAhead);
            newlyCounted = taken - madeUp;
            int reached = countedAhead + newlyCounted;
            int over = Math.max(0, Math.min(newlyCounted, reached - page.quantities[y]));
            flat = 100 * (page.terms[SURCHARGE] * over + page.terms[REST] * madeUp);
            shorts = 0;
            paidShort = 0;
            stand(Math.min(MOST_COUNTED, reached), madeAhead - madeUp, creditAhead);
        }

        /** A year's end, if the day is its last: the next year begins with what stands then. */
        private void close(Page page, int day) {
            if (!page.closes[day]) {
                return;
            }
            int y = page.yearOf[day];
            shorts = Math.max(0, page.tops[y] - credit - counted);
            paidShort = 100 * page.terms[BASE] * shorts;
            int above = Math.max(0, counted - page.quantities[y]);
            int carried = page.terms[CARRIED] == 1 ? Math.min(MOST_CREDIT, above) : 0;
            stand(0, page.terms[MADE_UP] == 0 ? 0 : shorts, carried);
        }

        private int paidFor(Page page, int s) {
            return newlyCounted * page.unitPrice(page.terms[PRICE + s], 1) + flat;
        }

        private int gained(Page page, int s) {
            return 100 * page.terms[PRICE + s] * x - paidFor(page, s);
        }
    }

    /** Goes along a row of takings day by day, and keeps what stands and what came of it. */
    private static final class Walk {
        private final Move move = new Move();
        private int next;
        private int firstWrong;
        private int counted;
        private int made;
        private int credit;
        private int paid;
        private int gain;
        private int shorts;
        private int paidThatDay;
        private int madeUpThatDay;

        private void begin() {
            next = 0;
            firstWrong = NONE;
            counted = 0;
            made = 0;
            credit = 0;
            paid = 0;
            gain = 0;
            shorts = 0;
        }

        private void go(Page page, int state, int x) {
            if (!page.hasDay(next)) {
                return;
            }
            if (firstWrong == NONE && !page.mayTake(next, x)) {
                firstWrong = next;
            }
            move.take(page, next, counted, made, credit, x);
            paidThatDay = move.paidFor(page, state);
            madeUpThatDay = move.madeUp;
            paid += paidThatDay;
            gain += move.gained(page, state);
            keepPlace();
            move.close(page, next);
            shorts += move.shorts;
            paid += move.paidShort;
            gain -= move.paidShort;
            next++;
            // At the very end there is no next year: what stood in the last one is kept.
            if (page.hasDay(next)) {
                keepPlace();
            }
        }

        private void keepPlace() {
            counted = move.counted;
            made = move.made;
            credit = move.credit;
        }
    }

    /** Days from the first on: the state next door and what was taken. */
    private static final class Row {
        private final int[] states = new int[MOST_DAYS];
        private final int[] takings = new int[MOST_DAYS];
        private int size;

        private void add(int state, int x) {
            if (size < MOST_DAYS) {
                states[size] = state;
                takings[size] = x;
                size++;
            }
        }
    }

    /** A row of cells of one lane; its cells are made once and used again. */
    private static final class Sheet {
        private static final int MOST_CELLS = 48;
        private static final int BYTES = 0;
        private static final int SHORTS = 1;

        private final int[] cells = new int[MOST_CELLS];
        private int lane = NONE;
        private int size;

        private void renew(int newLane, int n) {
            lane = newLane;
            size = n;
            for (int i = 0; i < MOST_CELLS; i++) {
                cells[i] = 0;
            }
        }

        private boolean has(int i) {
            return i >= 0 && i < size;
        }

        private void put(int i, int v) {
            cells[i] = lane == BYTES ? (byte) v : lane == SHORTS ? (short) v : v;
        }

        /** What the machine finds when the sheet is taken as one of a lane. */
        private int faultAs(int wanted) {
            if (lane == NONE) {
                return NULL_FAULT;
            }
            return lane == wanted ? 0 : CAST_FAULT;
        }
    }

    /**
     * The best takings of a page, from the last day back. Worths are whole numbers: those of a
     * day are told in parts of 4 to the power of the days from it to the end, so that no
     * chance is ever rounded; 20 days of at most 2 to the 20 hundredths stay below 2 to the 60.
     */
    private static final class Best {
        // A year that follows another begins without MADE or without CREDIT: who was SHORT has
        // nothing over. Only a place that is asked for may have both; so a cell is COUNTED with
        // MADE alone, with CREDIT alone, or with MADE beside the one CREDIT that is asked for.
        private static final int COUNTS = MOST_COUNTED + 1;
        private static final int OWN_CELLS = (MOST_MADE + 1 + MOST_CREDIT) * COUNTS;
        private static final int CELLS = OWN_CELLS + MOST_MADE * COUNTS;

        // For each day, cell and state of the day before: what is expected from that day on.
        private final long[] ahead = new long[MOST_DAYS * CELLS * STATES];
        // A day's cell is reckoned where its stamp is the present one: so nothing is cleared.
        private final int[] stamps = new int[MOST_DAYS * CELLS];
        // One for each day, because the days behind are reckoned in the midst of a day's takings.
        private final Move[] moves = new Move[MOST_DAYS];
        // By day and state known, four times: the price next door, what a counted unit costs.
        private final int[] prices = new int[MOST_DAYS * STATES];
        private final int[] unitPrices = new int[MOST_DAYS * STATES];
        private final long[] parts = new long[MOST_DAYS + 1];
        private Page page;
        private int stamp;
        private int askedStamp;
        private int askedCredit;
        private int stampsGiven;
        private long chosenWorth;

        private Best() {
            for (int day = 0; day < MOST_DAYS; day++) {
                moves[day] = new Move();
            }
        }

        /** Begins anew, by the states that a buyer of this page knows each day. */
        private void open(Page of) {
            begin(of);
            for (int s = 0; s < STATES; s++) {
                int fourths = of.terms[NOTICE] == 1 ? of.fourthsBehind(s) : 4 * of.terms[PRICE + s];
                for (int day = 0; day < of.total; day++) {
                    setPrice(day, s, fourths);
                }
            }
        }

        /** Begins anew, as if the states of a whole row were known from the first day on. */
        private void openKnowing(Page of, Row row) {
            begin(of);
            for (int day = 0; day < of.total; day++) {
                for (int s = 0; s < STATES; s++) {
                    setPrice(day, s, 4 * of.terms[PRICE + row.states[day]]);
                }
            }
        }

        private void begin(Page of) {
            page = of;
            stampsGiven++;
            stamp = stampsGiven;
            askedCredit = 0;
            for (int day = 0; day <= of.total; day++) {
                parts[day] = 1L << 2 * (of.total - day);
            }
        }

        /**
         * What is paid and gained goes straight with the price next door: so where that is not
         * known yet, what is expected of it stands for it.
         */
        private void setPrice(int day, int s, int fourths) {
            prices[STATES * day + s] = fourths;
            unitPrices[STATES * day + s] = page.unitPrice(fourths, 4);
        }

        private static int cell(int counted, int made, int credit) {
            if (made == 0 || credit == 0) {
                return (made > 0 ? MOST_CREDIT + made : credit) * COUNTS + counted;
            }
            return OWN_CELLS + (made - 1) * COUNTS + counted;
        }

        private static int countedOf(int ownCell) {
            return ownCell % COUNTS;
        }

        private static int madeOf(int ownCell) {
            return Math.max(0, ownCell / COUNTS - MOST_CREDIT);
        }

        private static int creditOf(int ownCell) {
            return ownCell / COUNTS > MOST_CREDIT ? 0 : ownCell / COUNTS;
        }

        /** Settles a place that is asked for: beside MADE, its CREDIT becomes the one at hand. */
        private void prepare(int day, int counted, int made, int credit) {
            if (made > 0 && credit > 0 && credit != askedCredit) {
                stampsGiven++;
                askedStamp = stampsGiven;
                askedCredit = credit;
            }
            settle(this, day, counted, made, credit);
        }

        /** Reckons what is expected from a day's cell on; the day bounds the depth. */
        private static void settle(Best best, int day, int counted, int made, int credit) {
            Page page = best.page;
            if (day >= page.total) {
                return;
            }
            int cell = cell(counted, made, credit);
            int stamp = cell < OWN_CELLS ? best.stamp : best.askedStamp;
            int at = day * CELLS + cell;
            if (best.stamps[at] == stamp) {
                return;
            }
            Move move = best.moves[day];
            int least = page.least(day);
            int most = page.most(day);
            long worth0 = 0;
            long worth1 = 0;
            long worth2 = 0;
            for (int x = least; x <= most; x++) {
                move.take(page, day, counted, made, credit, x);
                move.close(page, day);
                settle(best, day + 1, move.counted, move.made, move.credit);
                long taken0 = best.worthMade(move, day, 0);
                long taken1 = best.worthMade(move, day, 1);
                long taken2 = best.worthMade(move, day, 2);
                worth0 = x == least || taken0 > worth0 ? taken0 : worth0;
                worth1 = x == least || taken1 > worth1 ? taken1 : worth1;
                worth2 = x == least || taken2 > worth2 ? taken2 : worth2;
            }
            for (int s = 0; s < STATES; s++) {
                best.ahead[STATES * at + s] = page.chance(s, 0) * worth0
                    + page.chance(s, 1) * worth1 + page.chance(s, 2) * worth2;
            }
            best.stamps[at] = stamp;
        }

        /** The worth of a day's move that was made, all behind it being settled. */
        private long worthMade(Move move, int day, int s) {
            int of = STATES * day + s;
            int paid = move.newlyCounted * unitPrices[of] + 4 * (move.flat + move.paidShort);
            long gain = (100 * prices[of] * move.x - paid) * parts[day + 1];
            if (day + 1 >= page.total) {
                return gain;
            }
            int at = (day + 1) * CELLS + cell(move.counted, move.made, move.credit);
            return gain + ahead[STATES * at + s];
        }

        /** The best taking of a cell that is settled; its worth is left in its field. */
        private int choose(int day, int counted, int made, int credit, int s) {
            Move move = moves[day];
            int least = page.least(day);
            int most = page.most(day);
            int chosen = least;
            for (int x = least; x <= most; x++) {
                move.take(page, day, counted, made, credit, x);
                move.close(page, day);
                long worth = worthMade(move, day, s);
                if (x == least || worth > chosenWorth) {
                    chosen = x;
                    chosenWorth = worth;
                }
            }
            return chosen;
        }
    }

    /** What is expected from the first day on, if the best is taken. */
    private static final class Spread {
        // By cell and state known: how many parts of all chances of a day are there.
        private long[] chances = new long[Best.OWN_CELLS * STATES];
        private long[] chancesBehind = new long[Best.OWN_CELLS * STATES];
        // Where there are any, so that only these are gone through.
        private int[] places = new int[Best.OWN_CELLS * STATES];
        private int[] placesBehind = new int[Best.OWN_CELLS * STATES];
        private int held;
        private int heldBehind;
        private final Move move = new Move();
        private long buyer;
        private long seller;
        private long taken;
        private long shorts;
        private long madeUp;

        private void reckon(Best best) {
            Page page = best.page;
            best.prepare(0, 0, 0, 0);
            seller = 0;
            taken = 0;
            shorts = 0;
            madeUp = 0;
            add(page.terms[START], 1);
            for (int day = 0; day < page.total; day++) {
                turn();
                for (int i = 0; i < held; i++) {
                    follow(best, day, places[i]);
                    chances[places[i]] = 0;
                }
            }
            turn();
            for (int i = 0; i < held; i++) {
                chances[places[i]] = 0;
            }
            best.choose(0, 0, 0, 0, page.terms[START]);
            buyer = best.chosenWorth;
        }

        /** What was behind is at hand; what was at hand, cleared, takes what will be behind. */
        private void turn() {
            long[] cleared = chances;
            chances = chancesBehind;
            chancesBehind = cleared;
            int[] unused = places;
            places = placesBehind;
            placesBehind = unused;
            held = heldBehind;
            heldBehind = 0;
        }

        private void add(int place, long parts) {
            if (chancesBehind[place] == 0) {
                placesBehind[heldBehind] = place;
                heldBehind++;
            }
            chancesBehind[place] += parts;
        }

        private void follow(Best best, int day, int place) {
            Page page = best.page;
            long chance = chances[place];
            int s = place % STATES;
            int counted = Best.countedOf(place / STATES);
            int made = Best.madeOf(place / STATES);
            int credit = Best.creditOf(place / STATES);
            int x = best.choose(day, counted, made, credit, s);
            move.take(page, day, counted, made, credit, x);
            move.close(page, day);
            int flat = move.flat + move.paidShort - 100 * page.terms[COST] * x;
            int paid = move.newlyCounted * best.unitPrices[STATES * day + s] + 4 * flat;
            long fourth = chance * best.parts[day + 1];
            seller += fourth * paid;
            taken += 4 * fourth * x;
            shorts += 4 * fourth * move.shorts;
            madeUp += 4 * fourth * move.madeUp;
            int behind = STATES * Best.cell(move.counted, move.made, move.credit);
            for (int t = 0; t < STATES; t++) {
                if (page.chance(s, t) > 0) {
                    add(behind + t, chance * page.chance(s, t));
                }
            }
        }
    }

    /** What was reckoned of the page and the row; each is kept until one of them changes. */
    private static final class Figures {
        // What whole() and units() ask for.
        private static final int BUYER = 0;
        private static final int SELLER = 1;
        private static final int TAKEN = 2;
        private static final int SHORT = 3;
        private static final int MADE = 4;

        private final Page page;
        private final Row row;
        private final Page trial = new Page();
        private final Move move = new Move();
        // Large, so made when first asked for. One stays with the page, one goes from trial to trial.
        private Best best;
        private Best trialBest;
        private Spread spread;
        private boolean bestOpen;
        private boolean wholeKnown;
        private boolean offersKnown;
        private boolean cameKnown;
        private final boolean[] leftOutKnown = new boolean[WORDS];
        private final long[] wholes = new long[MADE + 1];
        private final long[] leftOut = new long[2 * WORDS];
        private int offersHeld;
        private int offerPaid;
        private int offerBase;
        private long offerMore;
        private int cameGain;
        private int cameTakings;

        private Figures(Page page, Row row) {
            this.page = page;
            this.row = row;
        }

        private void forgetPage() {
            bestOpen = false;
            wholeKnown = false;
            offersKnown = false;
            for (int word = 0; word < WORDS; word++) {
                leftOutKnown[word] = false;
            }
            forgetRow();
        }

        private void forgetRow() {
            cameKnown = false;
        }

        /** The page's best, settled from a day's cell on. */
        private Best bestFrom(int day, int counted, int made, int credit) {
            if (best == null) {
                best = new Best();
            }
            if (!bestOpen) {
                best.open(page);
                bestOpen = true;
            }
            best.prepare(day, counted, made, credit);
            return best;
        }

        private void makeTrialRoom() {
            if (trialBest == null) {
                trialBest = new Best();
            }
            if (spread == null) {
                spread = new Spread();
            }
        }

        private void reckonWhole() {
            // First of all: those who ask for trials behind this rest on it.
            makeTrialRoom();
            if (wholeKnown) {
                return;
            }
            spread.reckon(bestFrom(0, 0, 0, 0));
            wholes[BUYER] = spread.buyer;
            wholes[SELLER] = spread.seller;
            wholes[TAKEN] = spread.taken;
            wholes[SHORT] = spread.shorts;
            wholes[MADE] = spread.madeUp;
            wholeKnown = true;
        }

        private void reckonWithout(int word) {
            if (leftOutKnown[word]) {
                return;
            }
            reckonWhole();
            trial.copyAll(page);
            trial.leaveOut(word);
            trialBest.open(trial);
            spread.reckon(trialBest);
            leftOut[2 * word] = spread.buyer - wholes[BUYER];
            leftOut[2 * word + 1] = spread.seller - wholes[SELLER];
            leftOutKnown[word] = true;
        }

        private void reckonOffers() {
            if (offersKnown) {
                return;
            }
            reckonWhole();
            offersHeld = 0;
            int paidNow = page.terms[PAID];
            int baseNow = page.terms[BASE];
            for (int paid = paidNow - 20; paid <= paidNow + 20; paid += 20) {
                for (int base = baseNow - 1; base <= baseNow + 1; base++) {
                    if (paid >= 0 && paid <= 100 && base >= 1 && base <= 60) {
                        tryOffer(paid, base);
                    }
                }
            }
            offersKnown = true;
        }

        private void tryOffer(int paid, int base) {
            trial.copyAll(page);
            trial.terms[PAID] = paid;
            trial.terms[BASE] = base;
            trial.reckon();
            trialBest.open(trial);
            spread.reckon(trialBest);
            if (spread.buyer < wholes[BUYER]) {
                return;
            }
            long more = spread.seller - wholes[SELLER];
            if (offersHeld == 0 || more > offerMore) {
                offerPaid = paid;
                offerBase = base;
                offerMore = more;
            }
            offersHeld++;
        }

        private void reckonCame() {
            if (cameKnown) {
                return;
            }
            makeTrialRoom();
            trialBest.openKnowing(page, row);
            trialBest.prepare(0, 0, 0, 0);
            trialBest.choose(0, 0, 0, 0, 0);
            cameGain = (int) (trialBest.chosenWorth >> 2 * page.total);
            cameTakings = 0;
            move.stand(0, 0, 0);
            // Of rows of more days the figures are not asked for, and would not fit.
            for (int day = 0; day < page.total && page.total <= FIGURED_DAYS; day++) {
                int x = trialBest.choose(day, move.counted, move.made, move.credit, 0);
                move.take(page, day, move.counted, move.made, move.credit, x);
                move.close(page, day);
                cameTakings = 5 * cameTakings + x;
            }
            cameKnown = true;
        }
    }
}
