import java.lang.reflect.InvocationTargetException;
import java.lang.reflect.Method;
import java.util.Arrays;
import java.util.Comparator;

/**
 * What the tests of boundary cases share. Each method that bears a Sentence is the test of that
 * sentence alone; DocumentTest looks whether a sentence of the document has none.
 */
abstract class Boundary {
    static final int BAD = -1;
    static final int STATE = -2;
    static final int FULL = -3;
    static final int NONE = -4;
    static final int BAD_MONEY = -1000000;
    static final int STATE_MONEY = -1000002;
    static final long BAD_WORTH = -9000000000000000001L;
    static final long STATE_WORTH = -9000000000000000002L;
    static final int LOW = Integer.MIN_VALUE;
    static final int HIGH = Integer.MAX_VALUE;
    static final int NOBODY = 0;
    static final int SELLER = 1;
    static final int BUYER = 2;

    static final Check CHECK = new Check();

    /** A call with all its numbers. */
    interface Call {
        long of(int... numbers);
    }

    /** Something that is asked of an object that the test has made ready. */
    interface Asked {
        long of(TakeOrPay x);
    }

    static void runAll(Class<? extends Boundary> tests) throws IllegalAccessException {
        int sentences = 0;
        Method[] methods = tests.getDeclaredMethods();
        Arrays.sort(methods, Comparator.comparing(Method::getName));
        for (Method m : methods) {
            Sentence s = m.getAnnotation(Sentence.class);
            if (s != null) {
                sentences++;
                runOne(m, s);
            }
        }
        System.out.println(sentences + " sentences");
        CHECK.finish();
    }

    private static void runOne(Method m, Sentence s) throws IllegalAccessException {
        CHECK.at((s.promise() == 0 ? "terms" : "promise " + s.promise()) + " '" + s.words() + "'");
        int before = CHECK.asked();
        m.setAccessible(true);
        try {
            m.invoke(null);
        } catch (InvocationTargetException e) {
            e.getCause().printStackTrace(System.out);
            CHECK.holds("no call throws", false);
        }
        CHECK.holds("its test asks something", CHECK.asked() > before);
    }

    static void due(String call, long got, long want) {
        CHECK.due(call, got, want);
    }

    /** Of one number of a call: its least and its most are taken; what is below or above them is bad. */
    static void bounds(String name, Call call, int[] good, int i, int low, int high, long bad) {
        int[] a = good.clone();
        int[] taken = {low, high};
        for (int n : taken) {
            a[i] = n;
            CHECK.holds(name + Arrays.toString(a) + " is not refused", call.of(a) != bad);
        }
        int[] refused = {low - 1, high + 1, LOW, HIGH};
        for (int n : refused) {
            a[i] = n;
            due(name + Arrays.toString(a), call.of(a), bad);
        }
    }

    /** Bounds of all numbers of a call from 0 on, each up to its most. */
    static void boundsFrom0(String name, Call call, int[] good, int[] most, long bad) {
        for (int i = 0; i < most.length; i++) {
            bounds(name, call, good, i, 0, most[i], bad);
        }
    }

    static TakeOrPay told(String text) {
        return Check.told(text);
    }

    /** A new object refuses the text by a fault at a place. */
    static void refused(String text, int fault, int place) {
        CHECK.refused(text, fault, place);
    }

    /** A new object takes the text: so many lines, and what it tells then. */
    static void taken(String text, int lines, int what, int told) {
        CHECK.taken(text, lines, what, told);
    }

    static void dues(String name, Call call, int[]... rows) {
        for (int[] r : rows) {
            int[] a = Arrays.copyOf(r, r.length - 1);
            due(name + Arrays.toString(a), call.of(a), r[r.length - 1]);
        }
    }

    /** A row of numbers; the last is what is due. */
    static int[] is(int... numbers) {
        return numbers;
    }

    /** Days of a row, each a state and what was taken. */
    static void days(TakeOrPay x, int... statesAndTaken) {
        for (int i = 0; i < statesAndTaken.length; i += 2) {
            int had = x.count(2);
            due("day", x.day(statesAndTaken[i], statesAndTaken[i + 1]), had + 1);
        }
    }

    static void lay(TakeOrPay x, int k, int... cells) {
        for (int i = 0; i < cells.length; i++) {
            due("lay", x.lay(k, i, cells[i]), 1);
        }
    }

    static String blanks(int n) {
        return " ".repeat(n);
    }
}
