import java.util.Arrays;
import java.util.NoSuchElementException;
import java.util.function.IntToLongFunction;
import java.util.function.LongSupplier;

/** What the project's tests are written with: due answers, and short ways to rules, likenesses and rows. */
abstract class Bench {
    static final int NONE = MemoryRows.NONE;
    static final int GAP = -128;
    static final String REFUSED = "NoSuchElementException";
    private static String about = "";
    private static int wrong = 0;

    static void about(String what) {
        about = what;
    }

    static void finish(String praise) {
        System.out.println(wrong == 0 ? praise : wrong + " answers are not as due");
        if (wrong != 0) {
            System.exit(1);
        }
    }

    // ---- answers

    static void fault(String text) {
        wrong++;
        System.out.println(about + ": " + text);
    }

    static void due(String call, long got, long want) {
        if (got != want) {
            fault(call + " answered " + got + ", due is " + want);
        }
    }

    static void due(String call, boolean got, boolean want) {
        if (got != want) {
            fault(call + " answered " + got + ", due is " + want);
        }
    }

    static void due(String call, String got, String want) {
        if (!got.equals(want)) {
            fault(call + " answered " + got + ", due is " + want);
        }
    }

    /** What a call answers, or the name of what it throws. */
    static String said(LongSupplier asked) {
        try {
            return Long.toString(asked.getAsLong());
        } catch (RuntimeException e) {
            return e.getClass() == NoSuchElementException.class ? REFUSED : "threw " + e;
        }
    }

    static void refused(String call, LongSupplier asked) {
        due(call, said(asked), REFUSED);
    }

    static void fraction(String call, IntToLongFunction part, long top, long bottom) {
        due(call + " upper", said(() -> part.applyAsLong(0)), Long.toString(top));
        due(call + " lower", said(() -> part.applyAsLong(1)), Long.toString(bottom));
        refused(call + " what 2", () -> part.applyAsLong(2));
        refused(call + " what -1", () -> part.applyAsLong(-1));
    }

    // ---- the tape

    private static int word(int[] bytes, int from) {
        int word = 0;
        for (int i = from; i < from + 4; i++) {
            word = (word << 8) | ((i < bytes.length ? bytes[i] : 0) & 255);
        }
        return word;
    }

    /** The tape has these bytes alone. */
    static void load(MemoryRows x, int... bytes) {
        x.end(0);
        for (int i = 0; i < bytes.length; i += 20) {
            x.feed(word(bytes, i), word(bytes, i + 4), word(bytes, i + 8), word(bytes, i + 12), word(bytes, i + 16));
        }
        due("end after load", x.end(bytes.length), true);
    }

    static int[] repeated(int number, int times) {
        int[] numbers = new int[times];
        Arrays.fill(numbers, number);
        return numbers;
    }

    // ---- rules, likenesses, rows

    static void addRule(MemoryRows x, int s, int q, int p, int m, int spread, int... shares) {
        load(x, shares);
        due("rule", x.rule(s, q, p, m, spread), true);
    }

    static MemoryRows withRule(int s, int q, int p, int m, int spread, int... shares) {
        MemoryRows x = new MemoryRows();
        addRule(x, s, q, p, m, spread, shares);
        return x;
    }

    static int[] pairs(int... numbers) {
        int[] bytes = new int[2 * numbers.length];
        for (int i = 0; i < numbers.length; i++) {
            bytes[2 * i] = numbers[i] >> 8;
            bytes[2 * i + 1] = numbers[i] & 255;
        }
        return bytes;
    }

    static boolean give(MemoryRows x, int s, int... numbers) {
        load(x, pairs(numbers));
        return x.given(s);
    }

    static MemoryRows withLikenesses(int... numbers) {
        MemoryRows x = new MemoryRows();
        due("given", give(x, 0, numbers), true);
        return x;
    }

    static void setRow(MemoryRows x, int... numbers) {
        load(x, numbers);
        due("row", x.row(), numbers.length);
    }

    static MemoryRows withRow(int... numbers) {
        MemoryRows x = new MemoryRows();
        setRow(x, numbers);
        return x;
    }
}
