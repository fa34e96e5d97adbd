import java.util.Arrays;
import java.util.Set;
import java.util.TreeSet;
import java.util.function.Consumer;
import java.util.function.IntToLongFunction;
import java.util.function.ToLongFunction;

/**
 * The document again, sentence by sentence: each one that names a boundary case has a test of its own here, under the
 * sentence's own words.
 */
public final class BoundaryTest extends Bench {
    private static final int MIN = Integer.MIN_VALUE;
    private static final int MAX = Integer.MAX_VALUE;
    private static final int[] NO_SLOTS = {-1, 6, 7, 255, 256, MIN, MIN + 1, MAX, MAX - 1};
    private static final Set<String> SENTENCES = new TreeSet<>();

    public static void main(String[] args) {
        ofFractions();
        ofRules();
        ofDyingAway();
        ofWeightsAndLikes();
        ofLikenesses();
        ofSteps();
        ofTheRow();
        ofFillingAndAmiss();
        ofThrowingCalls();
        promises1To4();
        promises5To9();
        promises10To13();
        promises14To19();
        promises20To22();
        promises23To25();
        promises26To27();
        promises28To30();
        finish("every boundary holds, by " + SENTENCES.size() + " sentences");
    }

    private static void sentence(String where, String words, Runnable test) {
        String name = where + ", \"" + words + "\"";
        about(name);
        SENTENCES.add(name);
        try {
            test.run();
        } catch (RuntimeException e) {
            fault("threw " + e);
        }
    }

    // ---- what refused calls leave

    /** An object with something of every kind in it. */
    private static MemoryRows furnished() {
        MemoryRows x = new MemoryRows();
        addRule(x, 0, 2, 1, 0, 3, 1);
        addRule(x, 1, 3, 1, 1, 2, -1, 2);
        addRule(x, 2, 1, 2, 0, 1, 2, -1);
        addRule(x, 4, 4, 3, 0, 20, 0, 0, 0);
        due("given", give(x, 0, 4, 2, 1), true);
        due("given", give(x, 1, 1000, -500, 0, 3, 0), true);
        due("given", give(x, 2, 3, 3, 3), true);
        due("given", give(x, 4, 4, 0, 0, 0), true);
        setRow(x, 1, 2, 3, 9);
        due("amiss", x.amiss(0), 3);
        setRow(x, 1, 2, GAP, 4, 5, 6);
        due("fill", x.fill(0), 1);
        load(x, 1, -2, 3, -4, 5, 6, 7);
        return x;
    }

    private static void leavesAll(String call, ToLongFunction<MemoryRows> asked, String want) {
        MemoryRows x = furnished();
        due(call, said(() -> asked.applyAsLong(x)), want);
        due("the state behind " + call, State.of(x), State.of(furnished()));
    }

    /** For calls that take the tape: it is empty then, and all else stays. */
    private static void leavesAllButTheTape(String call, ToLongFunction<MemoryRows> asked, long want, int... bytes) {
        MemoryRows x = furnished();
        load(x, bytes);
        due(call, said(() -> asked.applyAsLong(x)), Long.toString(want));
        MemoryRows without = furnished();
        without.end(0);
        due("the state behind " + call, State.of(x), State.of(without));
    }

    /** The parts 0 and 1 are told, no other. */
    private static void onlyTwoParts(String call, IntToLongFunction part) {
        for (int what : new int[] {0, 1}) {
            due(call + ", what " + what, said(() -> part.applyAsLong(what)).equals(REFUSED), false);
        }
        for (int what : new int[] {-1, 2, 3, 256, MIN, MAX}) {
            refused(call + ", what " + what, () -> part.applyAsLong(what));
        }
    }

    private static long number(boolean answer) {
        return answer ? 1 : 0;
    }

    // ---- the terms

    private static void ofFractions() {
        MemoryRows x = withRule(0, 4, 1, 0, 3, 2);
        due("given", give(x, 0, 4, 2, 1), true);
        sentence("terms", "without a divisor in common", () -> {
            fraction("weight", what -> x.weight(0, 1, false, what), 1, 2);
            fraction("like", what -> x.like(0, 3, what), 1, 2);
            fraction("share", what -> x.share(0, 1, 1, what), 1, 2);
            fraction("left", what -> x.left(0, 1, what), 3, 1);
            setRow(x, 1, 3);
            fraction("next", what -> x.next(0, 1, what), 3, 2);
            fraction("squares", what -> x.squares(0, what), 25, 4);
            due("amiss", x.amiss(0), 0);
            fraction("lower", what -> x.lower(what), 25, 4);
            setRow(x, 1, GAP, 3);
            due("fill", x.fill(0), 1);
            fraction("filled", what -> x.filled(0, what), 8, 5);
        });
        MemoryRows y = withRule(0, 4, 1, 0, 3, -2);
        due("given", give(y, 0, 4, -2, -3, 0), true);
        sentence("terms", "and its lower one (1), which is 1 or more", () -> {
            fraction("weight", what -> y.weight(0, 1, false, what), -1, 2);
            fraction("like", what -> y.like(0, 3, what), -1, 2);
            fraction("share", what -> y.share(0, 1, 1, what), -1, 2);
            fraction("left", what -> y.left(0, 2, what), -7, 3);
            setRow(y, 1, 3);
            fraction("next", what -> y.next(0, 1, what), -3, 2);
            setRow(y, 1, GAP, 3);
            due("fill", y.fill(0), 1);
            fraction("filled", what -> y.filled(0, what), -8, 5);
        });
        MemoryRows z = withRule(0, 4, 1, 0, 3, 0);
        due("given", give(z, 0, 4, 0, 4), true);
        sentence("terms", "0 is 0 by 1", () -> {
            fraction("weight", what -> z.weight(0, 3, false, what), 0, 1);
            fraction("like", what -> z.like(0, 3, what), 0, 1);
            fraction("share", what -> z.share(0, 1, 1, what), 0, 1);
            fraction("left", what -> z.left(0, 2, what), 0, 1);
            setRow(z, 5, 0);
            fraction("next", what -> z.next(0, 1, what), 0, 1);
            fraction("squares", what -> z.squares(0, what), 0, 1);
            due("amiss", z.amiss(0), 0);
            fraction("lower", what -> z.lower(what), 0, 1);
            setRow(z, 5, GAP);
            due("fill", z.fill(0), 1);
            fraction("filled", what -> z.filled(0, what), 0, 1);
        });
    }

    private static void ofRules() {
        sentence("terms", "RULES lie in SLOTS 0 .. 5 (none at first)", () -> {
            MemoryRows x = new MemoryRows();
            for (int s = 0; s <= 5; s++) {
                due("steady ahead", x.steady(s), NONE);
                addRule(x, s, 4, 1, 0, 1, s - 3);
                due("steady behind", x.steady(s), 1);
                due("count(0)", x.count(0), s + 1);
            }
            for (int s = 0; s <= 5; s++) {
                int slot = s;
                due("each slot has its own", said(() -> x.weight(slot, 1, false, 0) * 4 / x.weight(slot, 1, false, 1)),
                    "" + (s - 3));
            }
        });
        for (int s : NO_SLOTS) {
            sentence("terms", "RULES lie in SLOTS 0 .. 5", () ->
                leavesAllButTheTape("rule(" + s + ", 2, 1, 0, 1)", x -> number(x.rule(s, 2, 1, 0, 1)), 0, 1));
        }
        sentence("terms", "q (1 to 4)", () -> {
            for (int q = 1; q <= 4; q++) {
                MemoryRows x = withRule(0, q, 1, 0, 1, 5);
                fraction("q " + q, what -> x.weight(0, 1, false, what), 5, q);
            }
            for (int q : new int[] {0, 5, -1, -4, 257, MIN, MAX}) {
                leavesAllButTheTape("q " + q, x -> number(x.rule(0, q, 1, 0, 1)), 0, 1);
            }
        });
        sentence("terms", "back shares A1 .. Ap (p 0 to 3)", () -> {
            for (int p = 0; p <= 3; p++) {
                MemoryRows x = withRule(0, 1, p, 0, 1, repeated(1, p));
                for (int k = 1; k <= 3; k++) {
                    int far = k;
                    fraction("A" + k + ", p " + p, what -> x.weight(0, far, true, what), k <= p ? -1 : 0, 1);
                }
            }
            leavesAllButTheTape("p 4", x -> number(x.rule(0, 2, 4, 0, 1)), 0, 1, 1, 1, 1);
            leavesAllButTheTape("p 4, m -1", x -> number(x.rule(0, 2, 4, -1, 1)), 0, 1, 1, 1);
            leavesAllButTheTape("p -1", x -> number(x.rule(0, 2, -1, 0, 1)), 0);
            leavesAllButTheTape("p -1, m 1", x -> number(x.rule(0, 2, -1, 1, 1)), 0);
            leavesAllButTheTape("p -1, m 2", x -> number(x.rule(0, 2, -1, 2, 1)), 0, 1);
        });
        sentence("terms", "miss shares B1 .. Bm (m 0 to 3)", () -> {
            for (int m = 0; m <= 3; m++) {
                MemoryRows x = withRule(0, 1, 0, m, 1, repeated(1, m));
                for (int k = 1; k <= 3; k++) {
                    int far = k;
                    fraction("B" + k + ", m " + m, what -> x.weight(0, far, false, what), k <= m ? 1 : 0, 1);
                }
            }
            leavesAllButTheTape("m 4", x -> number(x.rule(0, 2, 0, 4, 1)), 0, 1, 1, 1, 1);
            leavesAllButTheTape("m 4, p -1", x -> number(x.rule(0, 2, -1, 4, 1)), 0, 1, 1, 1);
            leavesAllButTheTape("m -1", x -> number(x.rule(0, 2, 0, -1, 1)), 0);
            leavesAllButTheTape("m -1, p 1", x -> number(x.rule(0, 2, 1, -1, 1)), 0);
            leavesAllButTheTape("m -1, p 2", x -> number(x.rule(0, 2, 2, -1, 1)), 0, 1);
        });
        sentence("terms", "all whole numbers -8 to 8", () -> {
            for (int i = 0; i < 6; i++) {
                for (int share : new int[] {-8, 8}) {
                    int[] shares = repeated(1, 6);
                    shares[i] = share;
                    MemoryRows x = new MemoryRows();
                    load(x, shares);
                    due("share " + share + " at " + i, x.rule(0, 1, 3, 3, 1), true);
                }
                for (int share : new int[] {-9, 9, 127, -128}) {
                    int[] shares = repeated(1, 6);
                    shares[i] = share;
                    leavesAllButTheTape("share " + share + " at " + i, x -> number(x.rule(0, 1, 3, 3, 1)), 0, shares);
                }
            }
        });
        sentence("terms", "spread S (1 to 20)", () -> {
            for (int spread = 1; spread <= 20; spread++) {
                MemoryRows x = withRule(0, 3, 0, 0, spread);
                fraction("spread " + spread, what -> x.like(0, 0, what), spread, 1);
            }
            for (int spread : new int[] {0, 21, -1, -20, 257, MIN, MAX}) {
                leavesAllButTheTape("spread " + spread, x -> number(x.rule(0, 2, 1, 0, spread)), 0, 1);
            }
        });
    }

    /** The same polynomial as back shares and, signs turned, as miss shares. */
    private static void diesAway(long want, int q, int... shares) {
        int[] turned = new int[shares.length];
        for (int i = 0; i < shares.length; i++) {
            turned[i] = -shares[i];
        }
        String name = q + " by " + Arrays.toString(shares);
        due("steady " + name, withRule(0, q, shares.length, 0, 1, shares).steady(0), want);
        due("clear " + name, withRule(0, q, 0, shares.length, 1, turned).clear(0), want);
    }

    private static void ofDyingAway() {
        sentence("terms", "no complex z of size 1 or less (none at all without shares)", () -> {
            for (int q = 1; q <= 4; q++) {
                diesAway(1, q);
                diesAway(1, q, 0);
                diesAway(1, q, 0, 0, 0);
            }
        });
        sentence("terms", "no complex z of size 1 or less (z is 1)", () -> {
            for (int q = 1; q <= 4; q++) {
                diesAway(1, q, q - 1);
                diesAway(0, q, q);
                diesAway(0, q, q + 1);
                diesAway(0, q, q, 0, 0);
            }
            diesAway(0, 4, 8, -4);
            diesAway(0, 4, 7, -3);
            diesAway(0, 4, 5, 0, -1);
            diesAway(1, 4, 4, 0, -1);
        });
        sentence("terms", "no complex z of size 1 or less (z is -1)", () -> {
            for (int q = 1; q <= 4; q++) {
                diesAway(1, q, 1 - q);
                diesAway(0, q, -q);
                diesAway(0, q, -q - 1);
                diesAway(0, q, -q, 0, 0);
            }
            diesAway(0, 4, -8, -4);
            diesAway(0, 4, -7, -3);
            diesAway(0, 4, -5, 0, 1);
            diesAway(1, 4, -4, 0, 1);
        });
        sentence("terms", "no complex z of size 1 or less (aside of the line)", () -> {
            diesAway(1, 3, 0, -2);
            diesAway(0, 3, 0, -3);
            diesAway(0, 3, 0, -4);
            diesAway(1, 4, 6, -3);
            diesAway(0, 4, 5, -4);
            diesAway(0, 4, 5, -5);
            diesAway(0, 2, 2, -2);
            diesAway(0, 2, 3, -3, 1);
            diesAway(0, 4, 3, -4, 3);
            diesAway(1, 4, 0, 0, 3);
            diesAway(1, 4, 0, 0, -3);
            diesAway(0, 4, 0, 0, 4);
            diesAway(0, 4, 0, 0, -4);
            diesAway(0, 4, 0, 0, 5);
        });
        sentence("terms", "no complex z of size 1 or less (the widest shares)", () -> {
            for (int share : new int[] {-8, 8}) {
                diesAway(0, 1, share, share, share);
                diesAway(0, 4, share, -share, share);
                diesAway(0, 4, 0, share, 0);
            }
        });
    }

    private static void ofWeightsAndLikes() {
        sentence("terms", "from k 0 on", () -> {
            MemoryRows x = withRule(0, 4, 3, 3, 20, 8, -8, 8, -8, 8, 8);
            fraction("WEIGHT 0 of old MISSES", what -> x.weight(0, 0, false, what), 1, 1);
            fraction("WEIGHT 0 of old numbers", what -> x.weight(0, 0, true, what), 1, 1);
            addRule(x, 0, 1, 0, 0, 20);
            fraction("WEIGHT 0 of old MISSES", what -> x.weight(0, 0, false, what), 1, 1);
            fraction("WEIGHT 1 of old MISSES", what -> x.weight(0, 1, false, what), 0, 1);
            fraction("WEIGHT 0 of old numbers", what -> x.weight(0, 0, true, what), 1, 1);
        });
        sentence("terms", "the mean of x(t) x(t-k)", () -> {
            MemoryRows x = withRule(0, 1, 0, 3, 20, 8, 8, 8);
            fraction("LIKE 0", what -> x.like(0, 0, what), 20 * 193, 1);
            fraction("LIKE 1", what -> x.like(0, 1, what), 20 * 136, 1);
            fraction("LIKE 2", what -> x.like(0, 2, what), 20 * 72, 1);
            fraction("LIKE 3", what -> x.like(0, 3, what), 20 * 8, 1);
            fraction("LIKE 4", what -> x.like(0, 4, what), 0, 1);
        });
    }

    private static void ofLikenesses() {
        sentence("terms", "LIKENESSES lie in SLOTS 0 .. 5 (none at first)", () -> {
            MemoryRows x = new MemoryRows();
            for (int s = 0; s <= 5; s++) {
                due("steps ahead", x.steps(s), NONE);
                due("given", give(x, s, 100 + s), true);
                due("steps behind", x.steps(s), 0);
                due("count(1)", x.count(1), s + 1);
            }
            for (int s = 0; s <= 5; s++) {
                due("each slot has its own", x.likeness(s, 0), 100 + s);
            }
        });
        for (int s : NO_SLOTS) {
            sentence("terms", "LIKENESSES lie in SLOTS 0 .. 5", () -> {
                leavesAllButTheTape("given(" + s + ")", x -> number(x.given(s)), 0, pairs(5, 1));
                leavesAll("joined(" + s + ", 0, 0)", x -> number(x.joined(s, 0, 0)), "0");
                leavesAll("thin(" + s + ", 0)", x -> number(x.thin(s, 0)), "0");
                MemoryRows x = withRow(1, 2);
                due("counted(" + s + ", 1)", x.counted(s, 1), false);
                due("count(1)", x.count(1), 0);
            });
        }
        sentence("terms", "R0 above 0", () -> {
            due("R0 1", withLikenesses(1).likeness(0, 0), 1);
            due("R0 1, R1 1", withLikenesses(1, 1).likeness(0, 1), 1);
            leavesAllButTheTape("R0 0", x -> number(x.given(0)), 0, pairs(0));
            leavesAllButTheTape("R0 0, R1 0", x -> number(x.given(0)), 0, pairs(0, 0));
            leavesAllButTheTape("R0 -1", x -> number(x.given(0)), 0, pairs(-1));
            leavesAllButTheTape("R0 -1, R1 0", x -> number(x.given(0)), 0, pairs(-1, 0));
        });
        sentence("terms", "n 0 to 4", () -> {
            for (int n = 0; n <= 4; n++) {
                MemoryRows x = withLikenesses(Arrays.copyOf(new int[] {7, 1, 2, 3, 4}, n + 1));
                due("Rn, n " + n, x.likeness(0, n), n == 0 ? 7 : n);
                int behind = n + 1;
                refused("R behind n " + n, () -> x.likeness(0, behind));
            }
            leavesAllButTheTape("n 5", x -> number(x.given(0)), 0, pairs(7, 1, 2, 3, 4, 5));
            leavesAllButTheTape("n -1", x -> number(x.given(0)), 0);
        });
        sentence("terms", "none above R0 in size", () -> {
            for (int k = 1; k <= 4; k++) {
                for (int size : new int[] {7, -7}) {
                    int[] fits = {7, 0, 0, 0, 0};
                    fits[k] = size;
                    due("R" + k + " " + size, withLikenesses(fits).likeness(0, k), size);
                    int[] above = {7, 0, 0, 0, 0};
                    above[k] = size > 0 ? 8 : -8;
                    leavesAllButTheTape("R" + k + " " + above[k], x -> number(x.given(0)), 0, pairs(above));
                }
            }
            leavesAllButTheTape("R1 1001", x -> number(x.given(0)), 0, pairs(1000, 1001));
            leavesAllButTheTape("R1 -32768", x -> number(x.given(0)), 0, pairs(1000, -32768));
        });
        sentence("terms", "R0 to 1000", () -> {
            due("R0 1000", withLikenesses(1000, -1000, 1000, 0, -1000).likeness(0, 4), -1000);
            leavesAllButTheTape("R0 1001", x -> number(x.given(0)), 0, pairs(1001));
            leavesAllButTheTape("R0 32767", x -> number(x.given(0)), 0, pairs(32767));
            leavesAllButTheTape("R0 -32768", x -> number(x.given(0)), 0, pairs(-32768));
        });
    }

    private static void ofSteps() {
        sentence("terms", "STEP k of them (k 1 to n)", () -> {
            for (int n = 0; n <= 4; n++) {
                MemoryRows x = withLikenesses(Arrays.copyOf(new int[] {16, 8, 4, 2, 1}, n + 1));
                int last = n;
                due("steps, n " + n, x.steps(0), n);
                fraction("left of STEP n " + n, what -> x.left(0, last, what), n == 0 ? 16 : 12, 1);
                refused("left behind STEP n " + n, () -> x.left(0, last + 1, 0));
                refused("share behind STEP n " + n, () -> x.share(0, last + 1, 1, 0));
                if (n > 0) {
                    fraction("share of STEP n " + n, what -> x.share(0, last, last, what),
                        n == 1 ? 1 : 0, n == 1 ? 2 : 1);
                }
            }
        });
        sentence("terms", "STEP k is there, if there is just one such row", () -> {
            // The two rows of STEP 2 are one and the same: many F fit.
            for (int sign : new int[] {1, -1}) {
                MemoryRows x = withLikenesses(5, 5 * sign, 5, 5 * sign, 5);
                due("steps", x.steps(0), 1);
                refused("share", () -> x.share(0, 2, 1, 0));
                refused("left", () -> x.left(0, 2, 0));
            }
        });
        sentence("terms", "the G of each STEP ahead (of STEP 0: R0) is above 0", () -> {
            // A G of 0 at STEP 2, then one of -8/3 at STEP 2 with just one row at STEP 3, then STEPS behind those.
            MemoryRows zero = withLikenesses(2, 1, -1, -2, -1);
            fraction("G 2", what -> zero.left(0, 2, what), 0, 1);
            due("steps behind a G of 0", zero.steps(0), 2);
            refused("left behind a G of 0", () -> zero.left(0, 3, 0));
            refused("share behind a G of 0", () -> zero.share(0, 3, 3, 0));
            MemoryRows below = withLikenesses(2, 1, -2, 0, 1);
            fraction("G 2", what -> below.left(0, 2, what), -8, 3);
            due("steps behind a G below 0", below.steps(0), 2);
            refused("left behind a G below 0", () -> below.left(0, 3, 0));
            refused("share behind a G below 0", () -> below.share(0, 3, 1, 0));
            refused("left two behind a G below 0", () -> below.left(0, 4, 0));
            refused("share two behind a G below 0", () -> below.share(0, 4, 4, 0));
            MemoryRows least = withLikenesses(1000, 999, 998);
            fraction("a G just above 0", what -> least.left(0, 1, what), 1999, 1000);
            due("steps behind a G just above 0", least.steps(0), 2);
            MemoryRows first = withLikenesses(1, -1);
            due("R0 is above 0 always", first.steps(0), 1);
        });
        sentence("terms", "They are SOLID, if all STEPS are there", () -> {
            due("none is asked for", withLikenesses(1).solid(0), 1);
            due("all are there", withLikenesses(16, 8, 4, 2, 1).solid(0), 1);
            due("STEP 2 is not there", withLikenesses(5, 5, 5).solid(0), 0);
            due("STEP 4 is not there", withLikenesses(4, 0, 0, 4, 0).solid(0), 0);
            // Here the equations of the last STEP have just one answer, and its G would be 0 or more.
            int[][] brokenAhead = {
                {1, -1, -1, -1}, {1, -1, -1, 1}, {1, -1, 0, 1, 0}, {1, -1, 0, 1, -1}, {2, -1, -2, -2},
                {3, -2, -2, 3}, {2, -1, -2, 2, -2}, {2, -1, -2, -1, 2}, {1, 0, -1, -1, -1}, {2, -1, -1, -1, 2},
                {2, -1, 0, -2, -2}, {2, -1, 0, 2, -1},
            };
            int[] steps = {1, 1, 1, 1, 2, 2, 2, 2, 2, 2, 3, 3};
            for (int i = 0; i < brokenAhead.length; i++) {
                MemoryRows x = withLikenesses(brokenAhead[i]);
                due("steps of " + Arrays.toString(brokenAhead[i]), x.steps(0), steps[i]);
                due("solid of " + Arrays.toString(brokenAhead[i]), x.solid(0), 0);
            }
        });
        sentence("terms", "and each G is 0 or more", () -> {
            due("the last G is 0, n 1", withLikenesses(5, 5).solid(0), 1);
            due("the last G is 0, n 2", withLikenesses(2, 1, -1).solid(0), 1);
            due("the last G is 0, n 4", withLikenesses(9, 0, 0, 0, -9).solid(0), 1);
            due("the last G is just below 0", withLikenesses(1000, 708, 2).solid(0), 0);
            due("the last G is just above 0", withLikenesses(1000, 708, 3).solid(0), 1);
            due("the last G is below 0, n 2", withLikenesses(2, 1, -2).solid(0), 0);
            due("a G ahead of the last is below 0", withLikenesses(2, 1, -2, 0, 1).solid(0), 0);
        });
        sentence("terms", "is nowhere below 0", () -> {
            for (int sign : new int[] {1, -1}) {
                due("0 at one end", withLikenesses(1000, 500 * sign).even(0), 1);
                due("below 0 at one end", withLikenesses(1000, 501 * sign).even(0), 0);
                due("0 at one end, R2 above 0", withLikenesses(6, 4 * sign, 1).even(0), 1);
                due("below 0 at one end, R2 above 0", withLikenesses(6, 5 * sign, 1).even(0), 0);
                due("0 within", withLikenesses(9, 4 * sign, 4).even(0), 1);
                due("below 0 within alone", withLikenesses(9, 5 * sign, 4).even(0), 0);
                due("0 just at the end of within", withLikenesses(12, 8 * sign, 4).even(0), 1);
                due("above 0 within", withLikenesses(10, 4 * sign, 4).even(0), 1);
                due("just below 0 within", withLikenesses(999, 667 * sign, 333).even(0), 0);
                due("below 0 within, R2 1", withLikenesses(4, 3 * sign, 1).even(0), 0);
                due("below 0 near the end of within", withLikenesses(13, 10 * sign, 4).even(0), 0);
                due("lowest behind the end of within", withLikenesses(8, 5 * sign, 1).even(0), 1);
                due("lowest just behind the end of within", withLikenesses(26, 17 * sign, 4).even(0), 1);
                due("R2 below 0, 0 at one end", withLikenesses(6, 2 * sign, -1).even(0), 1);
                due("R2 below 0, below 0 at one end", withLikenesses(5, 2 * sign, -1).even(0), 0);
                due("the largest", withLikenesses(1000, 1000 * sign, 1000).even(0), 0);
                due("the largest, turned", withLikenesses(1000, 1000 * sign, -1000).even(0), 0);
            }
            due("0 in the middle", withLikenesses(1000, 0, 500).even(0), 1);
            due("below 0 in the middle", withLikenesses(1000, 0, 501).even(0), 0);
            due("0 at both ends", withLikenesses(1000, 0, -500).even(0), 1);
            due("below 0 at both ends", withLikenesses(1000, 0, -501).even(0), 0);
        });
        sentence("terms", "(those that are not told being 0)", () -> {
            due("n 0", withLikenesses(1).even(0), 1);
            due("n 1", withLikenesses(2, 1).even(0), 1);
            MemoryRows x = withLikenesses(4, 4, 4);
            due("given", give(x, 0, 4, 2), true);
            due("R2 of those ahead is gone", x.even(0), 1);
            due("given", give(x, 0, 4, 4), true);
            due("given", give(x, 0, 4), true);
            due("R1 of those ahead is gone", x.even(0), 1);
        });
    }

    private static void ofTheRow() {
        sentence("terms", "THE ROW has up to 60 numbers -20 to 20, or GAPS", () -> {
            int[] numbers = repeated(20, 60);
            numbers[0] = -20;
            numbers[59] = GAP;
            MemoryRows x = withRow(numbers);
            due("count(2)", x.count(2), 60);
            due("at(0)", x.at(0), -20);
            due("at(58)", x.at(58), 20);
            due("at(59)", x.at(59), 100);
            leavesAllButTheTape("61 numbers", y -> y.row(), NONE, repeated(20, 61));
        });
        sentence("terms", "place t from p on is WHOLE", () -> {
            for (int p = 0; p <= 3; p++) {
                MemoryRows x = withRule(0, 1, p, 0, 1, repeated(1, p));
                for (int places = 0; places <= 5; places++) {
                    setRow(x, repeated(2, places));
                    due("p " + p + ", places " + places, x.whole(0), Math.max(0, places - p));
                }
            }
        });
        sentence("terms", "if t and the p places ahead have no GAP", () -> {
            for (int p = 0; p <= 3; p++) {
                for (int gap = 0; gap < 8; gap++) {
                    int[] numbers = repeated(2, 8);
                    numbers[gap] = GAP;
                    MemoryRows x = withRow(numbers);
                    addRule(x, 0, 1, p, 0, 1, repeated(0, p));
                    // The GAP spoils its own place and the p behind it, as far as they are places from p on.
                    int spoiled = Math.min(7, gap + p) - Math.max(p, gap) + 1;
                    due("p " + p + ", GAP at " + gap, x.whole(0), 8 - p - spoiled);
                    fraction("squares", what -> x.squares(0, what), 4 * (8 - p - spoiled), 1);
                }
            }
        });
        sentence("terms", "of all WHOLE places' MISSES squared, together", () -> {
            MemoryRows x = withRow(7, 20, GAP, 20, -20, GAP);
            addRule(x, 0, 4, 1, 0, 1, 8);
            fraction("two WHOLE places", what -> x.squares(0, what), 36 + 3600, 1);
            setRow(x, repeated(20, 60));
            addRule(x, 0, 1, 3, 0, 1, -8, -8, -8);
            fraction("the most of all", what -> x.squares(0, what), 57L * 500 * 500, 1);
            setRow(x, GAP, GAP, GAP);
            fraction("GAPS alone", what -> x.squares(0, what), 0, 1);
        });
    }

    private static void ofFillingAndAmiss() {
        sentence("terms", "of all places from p on together are least", () -> {
            MemoryRows x = withRow(GAP, 4);
            addRule(x, 0, 2, 1, 0, 1, 1);
            due("fill ahead of p", x.fill(0), 1);
            fraction("nothing is asked of place 0 itself", what -> x.filled(0, what), 8, 1);
            setRow(x, 4, GAP);
            due("fill at the end", x.fill(0), 1);
            fraction("nothing behind it", what -> x.filled(0, what), 2, 1);
            setRow(x, GAP, 3, GAP);
            due("fill at both ends", x.fill(0), 2);
            fraction("the first place", what -> x.filled(0, what), 6, 1);
            fraction("the last place", what -> x.filled(1, what), 3, 2);
            setRow(x, 20, GAP, -20);
            addRule(x, 0, 1, 1, 0, 1, 8);
            due("fill", x.fill(0), 1);
            fraction("both MISSES", what -> x.filled(0, what), 0, 1);
        });
        sentence("terms", "It is told if there are 1 to 3 GAPS", () -> {
            MemoryRows x = new MemoryRows();
            addRule(x, 0, 1, 0, 0, 1);
            addRule(x, 1, 1, 1, 0, 1, 1);
            for (int gaps = 0; gaps <= 5; gaps++) {
                int[] numbers = repeated(3, 8);
                for (int g = 0; g < gaps; g++) {
                    numbers[g + 1] = GAP;
                }
                setRow(x, numbers);
                due(gaps + " GAPS, p 0", x.fill(0), gaps <= 3 ? gaps : 0);
                due(gaps + " GAPS, p 1", x.fill(1), gaps <= 3 ? gaps : 0);
            }
            setRow(x, repeated(GAP, 60));
            due("60 GAPS", x.fill(0), 0);
            setRow(x);
            due("an empty ROW", x.fill(0), 0);
        });
        sentence("terms", "and just one such filling", () -> {
            MemoryRows x = new MemoryRows();
            addRule(x, 0, 2, 1, 0, 1, 1);
            addRule(x, 1, 2, 1, 0, 1, 0);
            addRule(x, 2, 2, 2, 0, 1, 1, 0);
            setRow(x, GAP);
            due("no place from p on", x.fill(0), 0);
            setRow(x, GAP, 3);
            due("no MISS feels the GAP", x.fill(1), 0);
            due("no place from p on", x.fill(2), 0);
            setRow(x, GAP, GAP);
            due("one MISS for two GAPS", x.fill(0), 0);
            setRow(x, GAP, GAP, 3);
            due("two MISSES for two GAPS", x.fill(0), 2);
            due("one MISS for two GAPS", x.fill(2), 0);
            setRow(x, GAP, 1, GAP, GAP);
            due("three MISSES for three GAPS", x.fill(0), 3);
            setRow(x, GAP, GAP, GAP);
            due("two MISSES for three GAPS", x.fill(0), 0);
            setRow(x, 5, GAP, GAP, GAP);
            due("three MISSES for three GAPS, the first told", x.fill(0), 3);
        });
        sentence("terms", "AMISS, for a ROW without GAPS", () -> {
            for (int gap = 0; gap < 3; gap++) {
                int[] numbers = {1, 2, 3};
                numbers[gap] = GAP;
                MemoryRows x = withRow(numbers);
                addRule(x, 0, 1, 0, 0, 1);
                addRule(x, 1, 1, 1, 0, 1, 1);
                due("GAP at " + gap, x.amiss(0), NONE);
                due("GAP at " + gap, x.amiss(1), NONE);
                refused("nothing was found", () -> x.lower(0));
            }
        });
        sentence("terms", "how much lower the SQUARES are if what is least stands there instead", () -> {
            MemoryRows x = withRow(8, 1);
            addRule(x, 0, 2, 1, 0, 1, 1);
            due("the place ahead of p", x.amiss(0), 0);
            fraction("all of it", what -> x.lower(what), 9, 1);
            setRow(x, 0, 0, 1);
            due("the last place", x.amiss(0), 2);
            fraction("all of it", what -> x.lower(what), 1, 1);
            setRow(x, 0, 20, -20);
            addRule(x, 0, 1, 1, 0, 1, 8);
            due("between", x.amiss(0), 1);
            // MISSES 20 and -180: (20 + 8 * 180) squared by 1 + 64; at place 2 it is but 180 squared.
            fraction("both MISSES at once", what -> x.lower(what), 426320, 13);
        });
        sentence("terms", "the place at which that is most, of like ones the first", () -> {
            MemoryRows x = withRow(5, -5, 5);
            addRule(x, 0, 1, 0, 0, 1);
            addRule(x, 1, 4, 1, 0, 1, 3);
            addRule(x, 2, 4, 1, 0, 1, 0);
            due("three like ones", x.amiss(0), 0);
            setRow(x, 0, 0, 0);
            due("nothing amiss", x.amiss(0), 0);
            fraction("nothing lower", what -> x.lower(what), 0, 1);
            setRow(x, 4, -5, 5);
            due("the two behind", x.amiss(0), 1);
            setRow(x, 4, 3, 2);
            due("a little amiss is more than nothing", x.amiss(1), 2);
            fraction("a quarter squared", what -> x.lower(what), 1, 16);
            setRow(x, 5, -5, 6);
            due("the last alone", x.amiss(0), 2);
            setRow(x, 0, -4, 5);
            due("like ones over other divisors", x.amiss(1), 1);
            fraction("64 at both", what -> x.lower(what), 64, 1);
            setRow(x, 9, 0, 0);
            due("a place that no MISS feels is like the others", x.amiss(2), 0);
            setRow(x, 9, 0, 1);
            due("a place that no MISS feels is not most", x.amiss(2), 2);
        });
    }

    // ---- "A call that throws changes nothing."

    private static void throwsAndLeaves(String call, ToLongFunction<MemoryRows> asked) {
        sentence("terms", "A call that throws changes nothing", () -> leavesAll(call, asked, REFUSED));
    }

    private static void ofThrowingCalls() {
        for (int s : new int[] {3, 5, -1, 6, MIN, MAX}) {
            throwsAndLeaves("weight of slot " + s, x -> x.weight(s, 0, false, 0));
            throwsAndLeaves("like of slot " + s, x -> x.like(s, 0, 0));
            throwsAndLeaves("likeness of slot " + s, x -> x.likeness(s, 0));
            throwsAndLeaves("share of slot " + s, x -> x.share(s, 1, 1, 0));
            throwsAndLeaves("left of slot " + s, x -> x.left(s, 0, 0));
            throwsAndLeaves("next of slot " + s, x -> x.next(s, 1, 0));
            throwsAndLeaves("squares of slot " + s, x -> x.squares(s, 0));
        }
        for (int what : new int[] {2, -1, 3, MIN, MAX}) {
            throwsAndLeaves("weight, what " + what, x -> x.weight(0, 1, false, what));
            throwsAndLeaves("weight of numbers, what " + what, x -> x.weight(0, 1, true, what));
            throwsAndLeaves("like, what " + what, x -> x.like(0, 1, what));
            throwsAndLeaves("share, what " + what, x -> x.share(0, 1, 1, what));
            throwsAndLeaves("left, what " + what, x -> x.left(0, 1, what));
            throwsAndLeaves("next, what " + what, x -> x.next(0, 1, what));
            throwsAndLeaves("squares, what " + what, x -> x.squares(0, what));
            throwsAndLeaves("filled, what " + what, x -> x.filled(0, what));
            throwsAndLeaves("lower, what " + what, x -> x.lower(what));
        }
        for (int k : new int[] {-1, 9, 10, 16, MIN, MAX}) {
            throwsAndLeaves("weight " + k, x -> x.weight(0, k, false, 0));
            throwsAndLeaves("weight of numbers " + k, x -> x.weight(1, k, true, 1));
            throwsAndLeaves("like " + k, x -> x.like(0, k, 0));
            throwsAndLeaves("likeness " + k, x -> x.likeness(1, k));
            throwsAndLeaves("share of step " + k, x -> x.share(1, k, 1, 0));
            throwsAndLeaves("share of step and j " + k, x -> x.share(1, k, k, 0));
            throwsAndLeaves("share " + k, x -> x.share(1, 4, k, 0));
            throwsAndLeaves("left " + k, x -> x.left(1, k, 0));
            throwsAndLeaves("next " + k, x -> x.next(0, k, 0));
            throwsAndLeaves("filled " + k, x -> x.filled(k, 0));
        }
        throwsAndLeaves("like, not STEADY", x -> x.like(2, 0, 0));
        throwsAndLeaves("next, miss shares", x -> x.next(1, 1, 0));
        throwsAndLeaves("squares, miss shares", x -> x.squares(1, 0));
        throwsAndLeaves("next 0", x -> x.next(0, 0, 0));
        throwsAndLeaves("next 6", x -> x.next(0, 6, 0));
        throwsAndLeaves("likeness behind n", x -> x.likeness(0, 3));
        throwsAndLeaves("share of STEP 0", x -> x.share(0, 0, 0, 0));
        throwsAndLeaves("share 0", x -> x.share(0, 2, 0, 0));
        throwsAndLeaves("share 3 of STEP 2", x -> x.share(0, 2, 3, 0));
        throwsAndLeaves("share of a STEP that is not there", x -> x.share(2, 2, 1, 0));
        throwsAndLeaves("left of a STEP that is not there", x -> x.left(2, 2, 0));
        throwsAndLeaves("filled behind the last GAP", x -> x.filled(1, 0));
    }

    // ---- the promises

    private static void promises1To4() {
        sentence("promise 1", "No RULES", () -> {
            MemoryRows x = new MemoryRows();
            due("count(0)", x.count(0), 0);
            for (int s = 0; s <= 5; s++) {
                due("steady", x.steady(s), NONE);
                due("clear", x.clear(s), NONE);
                due("same", x.same(s, s), NONE);
            }
        });
        sentence("promise 1", "No RULES, LIKENESSES", () -> {
            MemoryRows x = new MemoryRows();
            due("count(1)", x.count(1), 0);
            for (int s = 0; s <= 5; s++) {
                int slot = s;
                due("steps", x.steps(s), NONE);
                refused("likeness", () -> x.likeness(slot, 0));
            }
        });
        sentence("promise 1", "an empty ROW", () -> {
            MemoryRows x = new MemoryRows();
            due("count(2)", x.count(2), 0);
            due("count(3)", x.count(3), 0);
            due("at(0)", x.at(0), 101);
        });
        sentence("promise 1", "an empty tape", () -> {
            MemoryRows x = new MemoryRows();
            due("count(4)", x.count(4), 0);
            due("end(1)", x.end(1), false);
            due("row of an empty tape", x.row(), 0);
        });
        sentence("promise 1", "A new object", () -> {
            MemoryRows full = furnished();
            MemoryRows x = new MemoryRows();
            due("another object's things", State.of(x), State.of(new MemoryRows()));
            due("the furnished one's rules", full.count(0), 4);
        });
        sentence("promise 2", "Twenty bytes come behind the tape, of each number the highest first", () -> {
            MemoryRows x = new MemoryRows();
            load(x, 9, -9, 9);
            due("feed behind three", x.feed(0x01020304, 0xFFFEFDFC, 0x05000080, 0x00000006, 0x0708090A), 23);
            due("row", x.row(), 23);
            int[] want = {9, -9, 9, 1, 2, 3, 4, -1, -2, -3, -4, 5, 0, 0, 100, 0, 0, 0, 6, 7, 8, 9, 10, 101};
            for (int t = 0; t < want.length; t++) {
                due("at(" + t + ")", x.at(t), want[t]);
            }
        });
        sentence("promise 2", "how many it has", () -> {
            MemoryRows x = new MemoryRows();
            for (int i = 1; i <= 5; i++) {
                due("feed", x.feed(0, 0, 0, 0, 0), 20 * i);
                due("count(4)", x.count(4), 20 * i);
            }
        });
        sentence("promise 2", "NONE, and none come, if it would have more than 100", () -> {
            for (int bytes = 0; bytes <= 100; bytes++) {
                MemoryRows x = new MemoryRows();
                load(x, repeated(1, bytes));
                boolean fits = bytes <= 80;
                due("feed behind " + bytes, x.feed(-1, -1, -1, -1, -1), fits ? bytes + 20 : NONE);
                due("count(4)", x.count(4), fits ? bytes + 20 : bytes);
                x.end(Math.min(bytes, 60));
                due("row", x.row(), Math.min(bytes, 60));
                due("the bytes that were there stay", x.at(0), bytes > 0 ? 1 : 101);
                due("the bytes that were there stay", x.at(Math.min(bytes, 60) - 1), bytes > 0 ? 1 : 101);
            }
            MemoryRows full = furnished();
            MemoryRows same = furnished();
            load(full, repeated(3, 81));
            load(same, repeated(3, 81));
            due("feed", full.feed(1, 1, 1, 1, 1), NONE);
            due("the state behind a refused feed", State.of(full), State.of(same));
        });
        sentence("promise 3", "The tape has its first n bytes alone: true", () -> {
            for (int n = 0; n <= 7; n++) {
                MemoryRows x = new MemoryRows();
                load(x, 1, 2, 3, 4, 5, 6, 7);
                due("end(" + n + ")", x.end(n), true);
                due("count(4)", x.count(4), n);
                due("end again", x.end(n + 1), false);
                due("row", x.row(), n);
                due("the last", x.at(n - 1), n == 0 ? 101 : n);
            }
            MemoryRows x = new MemoryRows();
            due("end(0) of an empty tape", x.end(0), true);
            load(x, repeated(1, 100));
            due("end(100) of a full tape", x.end(100), true);
            due("count(4)", x.count(4), 100);
        });
        sentence("promise 3", "false, if it has not so many", () -> {
            for (int n : new int[] {8, 9, 20, 100, 101, 256, MAX}) {
                leavesAll("end(" + n + ")", x -> number(x.end(n)), "0");
            }
            MemoryRows x = new MemoryRows();
            due("end(1) of an empty tape", x.end(1), false);
            load(x, repeated(1, 100));
            due("end(101) of a full tape", x.end(101), false);
            due("count(4)", x.count(4), 100);
        });
        sentence("promise 3", "or n is below 0", () -> {
            for (int n : new int[] {-1, -7, -20, MIN, MIN + 1}) {
                leavesAll("end(" + n + ")", x -> number(x.end(n)), "0");
            }
        });
        sentence("promise 4", "the tape's bytes (with their signs", () -> {
            MemoryRows x = withRule(0, 1, 3, 3, 1, -8, 7, -1, 1, -7, 8);
            int[] back = {-8, 7, -1};
            addRule(x, 1, 1, 3, 0, 1, back);
            addRule(x, 2, 1, 0, 3, 1, 1, -7, 8);
            int[] miss = {1, -7, 8};
            for (int k = 1; k <= 3; k++) {
                int far = k;
                fraction("A" + k, what -> x.weight(1, far, true, what), -back[k - 1], 1);
                fraction("B" + k, what -> x.weight(2, far, false, what), miss[k - 1], 1);
            }
            fraction("B1 + A1", what -> x.weight(0, 1, false, what), -7, 1);
            fraction("-A1 - B1", what -> x.weight(0, 1, true, what), 7, 1);
        });
        sentence("promise 4", "empty then", () -> {
            MemoryRows x = withRule(0, 1, 3, 3, 1, 1, 2, 3, 4, 5, 6);
            due("count(4)", x.count(4), 0);
            due("a rule of no bytes is as told then", x.rule(1, 1, 0, 0, 1), true);
        });
        sentence("promise 4", "false, and the SLOT stays, if a number is not as told", () -> {
            for (int s : new int[] {0, 3}) {
                leavesAllButTheTape("q 5 of slot " + s, x -> number(x.rule(s, 5, 1, 0, 1)), 0, 1);
                leavesAllButTheTape("share 9 of slot " + s, x -> number(x.rule(s, 1, 1, 0, 1)), 0, 9);
                leavesAllButTheTape("the last share of slot " + s, x -> number(x.rule(s, 1, 1, 2, 1)), 0, 1, 1, -9);
                leavesAllButTheTape("spread 21 of slot " + s, x -> number(x.rule(s, 1, 1, 0, 21)), 0, 1);
            }
        });
        sentence("promise 4", "or there are not just p + m bytes", () -> {
            for (int p = 0; p <= 3; p++) {
                for (int m = 0; m <= 3; m++) {
                    for (int bytes = 0; bytes <= 8; bytes++) {
                        MemoryRows x = withRule(0, 1, 0, 0, 7);
                        load(x, repeated(1, bytes));
                        due("p " + p + ", m " + m + ", bytes " + bytes, x.rule(0, 1, p, m, 1), bytes == p + m);
                        due("count(4)", x.count(4), 0);
                        due("the SLOT stays", x.weight(0, 1, false, 0) == 0, bytes != p + m || bytes == 0);
                    }
                }
            }
            int[] many = repeated(1, 60);
            leavesAllButTheTape("60 bytes", x -> number(x.rule(0, 1, 1, 0, 1)), 0, many);
            leavesAllButTheTape("100 bytes", x -> number(x.rule(0, 1, 3, 3, 1)), 0, repeated(1, 100));
            // Both are wrong, though their sum wraps to the number of bytes.
            leavesAllButTheTape("p MAX, m MIN + 2", x -> number(x.rule(0, 1, MAX, MIN + 2, 1)), 0, 1);
            leavesAllButTheTape("p MIN, m MIN", x -> number(x.rule(0, 1, MIN, MIN, 1)), 0);
            leavesAllButTheTape("p MAX, m MAX", x -> number(x.rule(0, 1, MAX, MAX, 1)), 0);
        });
    }

    private static void promises5To9() {
        sentence("promise 5", "NONE: there is none", () -> {
            leavesAll("steady of an empty slot", x -> x.steady(3), "-1");
            for (int s : NO_SLOTS) {
                leavesAll("steady(" + s + ")", x -> x.steady(s), "-1");
            }
        });
        sentence("promise 5", "1 the RULE is STEADY, 0 not", () -> {
            leavesAll("steady", x -> x.steady(0), "1");
            leavesAll("not steady", x -> x.steady(2), "0");
            due("miss shares do not count", withRule(0, 1, 1, 3, 1, 0, 8, 8, 8).steady(0), 1);
        });
        sentence("promise 6", "NONE: there is none", () -> {
            leavesAll("clear of an empty slot", x -> x.clear(3), "-1");
            for (int s : NO_SLOTS) {
                leavesAll("clear(" + s + ")", x -> x.clear(s), "-1");
            }
        });
        sentence("promise 6", "1 the RULE is CLEAR, 0 not", () -> {
            leavesAll("clear", x -> x.clear(1), "1");
            due("not clear", withRule(0, 1, 0, 1, 1, 1).clear(0), 0);
            due("back shares do not count", withRule(0, 1, 3, 1, 1, 8, 8, 8, 0).clear(0), 1);
        });
        sentence("promise 7", "WEIGHT k (0 to 8) of old MISSES", () -> {
            MemoryRows x = withRule(0, 1, 3, 0, 1, 8, 8, 8);
            long[] want = {1, 8, 72, 648, 5824, 52352, 470592, 4230144, 38024704};
            for (int k = 0; k <= 8; k++) {
                int far = k;
                fraction("k " + k, what -> x.weight(0, far, false, what), want[k], 1);
            }
            addRule(x, 0, 4, 1, 0, 1, 3);
            fraction("k 8", what -> x.weight(0, 8, false, what), 6561, 65536);
            refused("k 9", () -> x.weight(0, 9, false, 0));
            refused("k -1", () -> x.weight(0, -1, false, 0));
        });
        sentence("promise 7", "or old numbers (true)", () -> {
            MemoryRows x = withRule(0, 1, 0, 3, 1, 8, 8, 8);
            long[] want = {1, -8, 56, -392, 2752, -19328, 135744, -953344, 6695424};
            for (int k = 0; k <= 8; k++) {
                int far = k;
                fraction("k " + k, what -> x.weight(0, far, true, what), want[k], 1);
            }
            addRule(x, 0, 4, 0, 1, 1, -3);
            fraction("k 8", what -> x.weight(0, 8, true, what), 6561, 65536);
            refused("k 9", () -> x.weight(0, 9, true, 0));
            refused("k -1", () -> x.weight(0, -1, true, 0));
        });
        sentence("promise 7", "NoSuchElementException: no RULE, another k or what (likewise below)", () -> {
            MemoryRows x = withRule(0, 2, 1, 1, 1, 1, 1);
            for (int k = 0; k <= 8; k++) {
                int far = k;
                onlyTwoParts("weight " + k, what -> x.weight(0, far, false, what));
                onlyTwoParts("weight of numbers " + k, what -> x.weight(0, far, true, what));
                onlyTwoParts("like " + k, what -> x.like(0, far, what));
            }
            refused("weight of an empty slot", () -> x.weight(1, 0, false, 0));
            refused("weight of numbers of an empty slot", () -> x.weight(1, 0, true, 0));
            refused("like of an empty slot", () -> x.like(1, 0, 0));
            for (int s : NO_SLOTS) {
                refused("weight of slot " + s, () -> x.weight(s, 0, false, 0));
                refused("weight of numbers of slot " + s, () -> x.weight(s, 0, true, 0));
                refused("like of slot " + s, () -> x.like(s, 0, 0));
            }
        });
        sentence("promise 8", "LIKE k (0 to 8)", () -> {
            MemoryRows x = withRule(0, 4, 1, 0, 7, 3);
            long[] tops = {16, 12, 9, 27, 81, 243, 729, 2187, 6561};
            long[] bottoms = {1, 1, 1, 4, 16, 64, 256, 1024, 4096};
            for (int k = 0; k <= 8; k++) {
                int far = k;
                fraction("k " + k, what -> x.like(0, far, what), tops[k], bottoms[k]);
            }
            refused("k 9", () -> x.like(0, 9, 0));
            refused("k -1", () -> x.like(0, -1, 0));
        });
        sentence("promise 8", "NoSuchElementException also if the RULE is not STEADY", () -> {
            MemoryRows x = withRule(0, 1, 1, 0, 1, 1);
            refused("z is 1", () -> x.like(0, 0, 0));
            addRule(x, 0, 3, 2, 0, 1, 0, -3);
            refused("z aside of the line", () -> x.like(0, 0, 0));
            addRule(x, 0, 1, 1, 1, 1, 2, -2);
            refused("though the shares undo one another", () -> x.like(0, 0, 0));
            addRule(x, 0, 4, 1, 1, 1, 0, 8);
            fraction("not CLEAR is no matter", what -> x.like(0, 0, what), 5, 1);
        });
        sentence("promise 9", "have the same LIKES 0 to 8", () -> {
            MemoryRows x = withRule(0, 2, 0, 1, 4, 1);
            addRule(x, 1, 1, 0, 1, 1, 2);
            due("other shares, another spread", x.same(0, 1), 1);
            due("a rule with itself", x.same(1, 1), 1);
            addRule(x, 1, 4, 0, 1, 4, 2);
            due("another q", x.same(0, 1), 1);
            addRule(x, 1, 2, 0, 1, 4, -1);
            due("LIKE 1 alone differs", x.same(0, 1), 0);
            addRule(x, 0, 1, 0, 0, 3);
            addRule(x, 1, 1, 0, 0, 4);
            due("LIKE 0 alone differs", x.same(0, 1), 0);
            addRule(x, 1, 4, 3, 0, 3, 0, 0, 0);
            due("shares of 0", x.same(0, 1), 1);
            addRule(x, 0, 1, 0, 3, 1, 0, 0, -1);
            addRule(x, 1, 1, 0, 3, 1, 0, 0, 1);
            due("LIKE 3 alone differs", x.same(0, 1), 0);
            addRule(x, 0, 2, 3, 3, 1, 2, 0, -1, 0, -2, 2);
            addRule(x, 1, 4, 3, 3, 1, 4, 2, -3, -4, -4, 4);
            for (int k = 0; k <= 5; k++) {
                due("LIKE " + k, x.like(0, k, 0) * x.like(1, k, 1), x.like(1, k, 0) * x.like(0, k, 1));
            }
            due("LIKES 0 to 5 are the same, not LIKE 6", x.same(0, 1), 0);
            due("the other way", x.same(1, 0), 0);
        });
        sentence("promise 9", "NONE: one is none, or not STEADY", () -> {
            for (int s : new int[] {3, -1, 6, MIN, MAX}) {
                leavesAll("same(0, " + s + ")", x -> x.same(0, s), "-1");
                leavesAll("same(" + s + ", 0)", x -> x.same(s, 0), "-1");
                leavesAll("same(" + s + ", " + s + ")", x -> x.same(s, s), "-1");
            }
            leavesAll("the second is not STEADY", x -> x.same(0, 2), "-1");
            leavesAll("the first is not STEADY", x -> x.same(2, 0), "-1");
            leavesAll("one that is not STEADY with itself", x -> x.same(2, 2), "-1");
        });
    }

    private static void promises10To13() {
        sentence("promise 10", "each a number with its sign, the highest byte first", () -> {
            int[] numbers = {1000, -1, 255, -256, 128};
            MemoryRows x = withLikenesses(numbers);
            for (int k = 0; k <= 4; k++) {
                due("R" + k, x.likeness(0, k), numbers[k]);
            }
            int[] more = {1000, -128, 127, 256, -1000};
            due("given", give(x, 0, more), true);
            for (int k = 0; k <= 4; k++) {
                due("R" + k, x.likeness(0, k), more[k]);
            }
        });
        sentence("promise 10", "empty then", () -> {
            MemoryRows x = withLikenesses(9, 1, 2, 3, 4);
            due("count(4)", x.count(4), 0);
        });
        sentence("promise 10", "one to five: true", () -> {
            for (int bytes = 0; bytes <= 14; bytes++) {
                MemoryRows x = new MemoryRows();
                load(x, Arrays.copyOf(pairs(7, 1, 1, 1, 1, 1, 1), bytes));
                boolean fits = bytes % 2 == 0 && bytes >= 2 && bytes <= 10;
                due("given of " + bytes + " bytes", x.given(0), fits);
                due("count(1)", x.count(1), fits ? 1 : 0);
                due("count(4)", x.count(4), 0);
            }
        });
        sentence("promise 10", "false, and the SLOT stays, if they are not as told", () -> {
            for (int s : new int[] {0, 3}) {
                leavesAllButTheTape("R1 above R0", x -> number(x.given(s)), 0, pairs(3, 4));
                leavesAllButTheTape("the last above R0", x -> number(x.given(s)), 0, pairs(3, 1, 1, 1, -4));
                leavesAllButTheTape("no pair", x -> number(x.given(s)), 0);
                leavesAllButTheTape("half a pair", x -> number(x.given(s)), 0, 1);
                leavesAllButTheTape("a pair and a half", x -> number(x.given(s)), 0, 0, 3, 0);
                leavesAllButTheTape("five pairs and a half", x -> number(x.given(s)), 0,
                    0, 3, 0, 1, 0, 1, 0, 1, 0, 1, 0);
                leavesAllButTheTape("six pairs", x -> number(x.given(s)), 0, pairs(3, 1, 1, 1, 1, 1));
                leavesAllButTheTape("fifty pairs", x -> number(x.given(s)), 0, repeated(1, 100));
            }
        });
        sentence("promise 11", "k 0 to n (0 to 4): true", () -> {
            int[] want = {30, 20, 11, 4, 0};
            for (int n = 0; n <= 4; n++) {
                MemoryRows x = withRow(1, 2, 3, 4);
                load(x, 5);
                due("counted(0, " + n + ")", x.counted(0, n), true);
                for (int k = 0; k <= n; k++) {
                    due("R" + k, x.likeness(0, k), want[k]);
                }
                int behind = n + 1;
                refused("R behind n", () -> x.likeness(0, behind));
                due("the tape stays", x.count(4), 1);
            }
            for (int n : new int[] {-1, 5, 6, MIN, MAX}) {
                MemoryRows x = withRow(1, 2, 3, 4);
                due("counted", x.counted(0, 1), true);
                due("counted(0, " + n + ")", x.counted(0, n), false);
                due("R1 stays", x.likeness(0, 1), 20);
                refused("R2 stays away", () -> x.likeness(0, 2));
            }
            MemoryRows one = withRow(-20);
            due("a ROW of one", one.counted(0, 4), true);
            due("R0", one.likeness(0, 0), 400);
            due("R4 without a pair", one.likeness(0, 4), 0);
        });
        sentence("promise 11", "false, if they are not as told", () -> {
            MemoryRows x = withRow(20, 20, -10, 10);
            due("R0 1000", x.counted(0, 1), true);
            due("R1", x.likeness(0, 1), 400 - 200 - 100);
            due("put", x.put(4, 1), true);
            due("R0 1001", x.counted(0, 0), false);
            due("R0 1001", x.counted(1, 4), false);
            setRow(x, 0, 0, 0);
            due("R0 0", x.counted(0, 0), false);
            due("R0 0", x.counted(1, 4), false);
            setRow(x);
            due("an empty ROW", x.counted(0, 0), false);
            due("an empty ROW", x.counted(1, 4), false);
            setRow(x, repeated(20, 60));
            due("R0 24000", x.counted(0, 4), false);
            due("the SLOT stays", x.likeness(0, 0), 1000);
            due("the SLOT stays", x.likeness(0, 1), 100);
            refused("the SLOT stays", () -> x.likeness(0, 2));
            due("count(1)", x.count(1), 1);
            setRow(x, 0, 1, 0);
            due("R0 1", x.counted(1, 2), true);
        });
        sentence("promise 11", "or the ROW has a GAP", () -> {
            for (int n = 0; n <= 4; n++) {
                int last = n;
                leavesAll("counted(0, " + n + ")", x -> number(x.counted(0, last)), "0");
                leavesAll("counted(3, " + n + ")", x -> number(x.counted(3, last)), "0");
            }
            for (int gap = 0; gap < 3; gap++) {
                int[] numbers = {1, 2, 3};
                numbers[gap] = GAP;
                due("GAP at " + gap, withRow(numbers).counted(0, 0), false);
            }
        });
        sentence("promise 12", "as far as both tell", () -> {
            int[] one = {10, 1, 2, 3, 4};
            int[] two = {20, -5, 6, -7, 8};
            for (int i = 1; i <= 5; i++) {
                for (int j = 1; j <= 5; j++) {
                    MemoryRows x = new MemoryRows();
                    due("given", give(x, 0, Arrays.copyOf(one, i)), true);
                    due("given", give(x, 1, Arrays.copyOf(two, j)), true);
                    due("given", give(x, 2, 9, 9, 9, 9, 9), true);
                    due("joined", x.joined(2, 0, 1), true);
                    int told = Math.min(i, j);
                    for (int k = 0; k < told; k++) {
                        due("R" + k, x.likeness(2, k), one[k] + two[k]);
                    }
                    refused("R" + told + " of " + i + " and " + j, () -> x.likeness(2, told));
                }
            }
        });
        sentence("promise 12", "LIKENESSES of SLOT s are the sums of those of t and u (s, t, u being one)", () -> {
            MemoryRows x = withLikenesses(100, -7);
            due("joined(0, 0, 0)", x.joined(0, 0, 0), true);
            due("R0", x.likeness(0, 0), 200);
            due("R1", x.likeness(0, 1), -14);
            due("given", give(x, 1, 5, 5, 5), true);
            due("joined(1, 0, 1)", x.joined(1, 0, 1), true);
            due("R0", x.likeness(1, 0), 205);
            due("R1", x.likeness(1, 1), -9);
            refused("R2", () -> x.likeness(1, 2));
            due("joined(0, 0, 1)", x.joined(0, 0, 1), true);
            due("R0", x.likeness(0, 0), 405);
            due("t stays", x.likeness(1, 0), 205);
        });
        sentence("promise 12", "false, if one is none", () -> {
            for (int none : new int[] {3, 5, -1, 6, MIN, MAX}) {
                leavesAll("joined(0, 0, " + none + ")", x -> number(x.joined(0, 0, none)), "0");
                leavesAll("joined(0, " + none + ", 0)", x -> number(x.joined(0, none, 0)), "0");
                leavesAll("joined(3, " + none + ", " + none + ")", x -> number(x.joined(3, none, none)), "0");
            }
        });
        sentence("promise 12", "or they are not as told", () -> {
            MemoryRows x = withLikenesses(500, 500);
            due("given", give(x, 1, 501, 1), true);
            due("R0 1000", x.joined(2, 0, 0), true);
            due("R1 1000", x.likeness(2, 1), 1000);
            due("R0 1001", x.joined(2, 0, 1), false);
            due("the SLOT stays", x.likeness(2, 1), 1000);
            due("R0 1001 into an empty slot", x.joined(3, 0, 1), false);
            due("count(1)", x.count(1), 3);
            due("R0 2000", x.joined(2, 2, 2), false);
            leavesAll("R0 1004", y -> number(y.joined(0, 0, 1)), "0");
        });
        sentence("promise 13", "R0, R2, R4 as far as told: true", () -> {
            for (int told = 1; told <= 5; told++) {
                MemoryRows x = withLikenesses(Arrays.copyOf(new int[] {9, 8, -7, 6, 5}, told));
                due("given", give(x, 1, 3, 3, 3, 3, 3), true);
                due("thin", x.thin(1, 0), true);
                int[] want = {9, -7, 5};
                int left = (told + 1) / 2;
                for (int k = 0; k < left; k++) {
                    due("R" + k + " of " + told, x.likeness(1, k), want[k]);
                }
                refused("R" + left + " of " + told, () -> x.likeness(1, left));
                due("t stays", x.likeness(0, told - 1), new int[] {9, 8, -7, 6, 5}[told - 1]);
            }
            MemoryRows x = withLikenesses(9, 8, -7, 6, 5);
            due("thin(0, 0)", x.thin(0, 0), true);
            due("thin(0, 0)", x.thin(0, 0), true);
            due("thin(0, 0)", x.thin(0, 0), true);
            due("R0", x.likeness(0, 0), 9);
            refused("R1", () -> x.likeness(0, 1));
        });
        sentence("promise 13", "false, if t has none", () -> {
            for (int none : new int[] {3, 5, -1, 6, MIN, MAX}) {
                leavesAll("thin(0, " + none + ")", x -> number(x.thin(0, none)), "0");
                leavesAll("thin(3, " + none + ")", x -> number(x.thin(3, none)), "0");
            }
        });
    }

    private static void promises14To19() {
        sentence("promise 14", "NoSuchElementException: there is none such", () -> {
            MemoryRows x = withLikenesses(7, 6, -5);
            due("R0", x.likeness(0, 0), 7);
            due("R2", x.likeness(0, 2), -5);
            for (int k : new int[] {3, 4, 5, -1, MIN, MAX}) {
                refused("likeness(0, " + k + ")", () -> x.likeness(0, k));
            }
            for (int s : NO_SLOTS) {
                refused("likeness(" + s + ", 0)", () -> x.likeness(s, 0));
            }
            refused("likeness of an empty slot", () -> x.likeness(1, 0));
        });
        sentence("promise 15", "one behind another from STEP 1 on", () -> {
            due("n 0", withLikenesses(1000).steps(0), 0);
            due("STEP 1 is there always", withLikenesses(1, 1, 1, 1, 1).steps(0), 1);
            due("STEP 2 has a G of 0", withLikenesses(2, 1, -1, -2, -1).steps(0), 2);
            due("STEP 3 has a G below 0", withLikenesses(4, 0, 0, 4, 4).steps(0), 3);
            due("STEP 4 has a G of 0", withLikenesses(4, 0, 0, 0, 4).steps(0), 4);
        });
        sentence("promise 15", "NONE without LIKENESSES", () -> {
            leavesAll("steps of an empty slot", x -> x.steps(3), "-1");
            for (int s : NO_SLOTS) {
                leavesAll("steps(" + s + ")", x -> x.steps(s), "-1");
            }
        });
        sentence("promise 16", "Fj of STEP k (j 1 to k)", () -> {
            MemoryRows x = withLikenesses(4, 2, -1);
            fraction("F1 of 1", what -> x.share(0, 1, 1, what), 1, 2);
            fraction("F1 of 2", what -> x.share(0, 2, 1, what), 5, 6);
            fraction("F2 of 2", what -> x.share(0, 2, 2, what), -2, 3);
            for (int j : new int[] {0, -1, 3, 4, 5, MIN, MAX}) {
                refused("F" + j + " of 2", () -> x.share(0, 2, j, 0));
            }
            refused("F2 of 1", () -> x.share(0, 1, 2, 0));
            refused("F0 of 0", () -> x.share(0, 0, 0, 0));
            refused("F1 of 0", () -> x.share(0, 0, 1, 0));
            refused("F1 of -1", () -> x.share(0, -1, 1, 0));
            refused("F-1 of -1", () -> x.share(0, -1, -1, 0));
        });
        sentence("promise 16", "NoSuchElementException: STEP k is not there", () -> {
            MemoryRows x = withLikenesses(4, 0, 0, 4, 4);
            fraction("F3 of 3", what -> x.share(0, 3, 3, what), 1, 1);
            refused("F1 of 4", () -> x.share(0, 4, 1, 0));
            refused("F4 of 4", () -> x.share(0, 4, 4, 0));
            refused("F5 of 5", () -> x.share(0, 5, 5, 0));
            refused("F1 of MAX", () -> x.share(0, MAX, 1, 0));
        });
        sentence("promise 16", "another j or what", () -> {
            MemoryRows x = withLikenesses(16, 8, 4, 2, 1);
            for (int k = 1; k <= 4; k++) {
                for (int j = -1; j <= 6; j++) {
                    int step = k;
                    int share = j;
                    due("F" + j + " of " + k, said(() -> x.share(0, step, share, 0)).equals(REFUSED), j < 1 || j > k);
                }
                int last = k;
                onlyTwoParts("the last F of " + k, what -> x.share(0, last, last, what));
            }
        });
        sentence("promise 17", "G of STEP k (0: R0)", () -> {
            MemoryRows x = withLikenesses(1000, 500, 250, 125);
            fraction("G 0", what -> x.left(0, 0, what), 1000, 1);
            fraction("G 3", what -> x.left(0, 3, what), 750, 1);
            MemoryRows y = withLikenesses(1);
            fraction("G 0 alone", what -> y.left(0, 0, what), 1, 1);
        });
        sentence("promise 17", "NoSuchElementException: STEP k is not there", () -> {
            MemoryRows x = withLikenesses(4, 0, 0, 4, 4);
            fraction("G 3", what -> x.left(0, 3, what), 0, 1);
            for (int k : new int[] {4, 5, -1, MIN, MAX}) {
                refused("G " + k, () -> x.left(0, k, 0));
            }
            MemoryRows y = withLikenesses(1);
            refused("G 1 of n 0", () -> y.left(0, 1, 0));
        });
        sentence("promise 17", "or another what", () -> {
            MemoryRows x = withLikenesses(16, 8, 4, 2, 1);
            for (int k = 0; k <= 4; k++) {
                int step = k;
                onlyTwoParts("G " + k, what -> x.left(0, step, what));
            }
        });
        sentence("promise 18", "NONE without LIKENESSES", () -> {
            leavesAll("solid of an empty slot", x -> x.solid(3), "-1");
            for (int s : NO_SLOTS) {
                leavesAll("solid(" + s + ")", x -> x.solid(s), "-1");
            }
        });
        sentence("promise 18", "1 SOLID, 0 not", () -> {
            leavesAll("solid", x -> x.solid(0), "1");
            leavesAll("not solid", x -> x.solid(2), "0");
        });
        sentence("promise 19", "NONE without LIKENESSES", () -> {
            leavesAll("even of an empty slot", x -> x.even(3), "-1");
            for (int s : NO_SLOTS) {
                leavesAll("even(" + s + ")", x -> x.even(s), "-1");
            }
        });
        sentence("promise 19", "or n above 2", () -> {
            due("n 2", withLikenesses(9, 0, 0).even(0), 1);
            due("n 3", withLikenesses(9, 0, 0, 0).even(0), NONE);
            due("n 4", withLikenesses(9, 0, 0, 0, 0).even(0), NONE);
            due("n 3, not even", withLikenesses(9, 9, 9, 0).even(0), NONE);
            leavesAll("n 4", x -> x.even(1), "-1");
        });
        sentence("promise 19", "1 EVEN, 0 not", () -> {
            leavesAll("even", x -> x.even(0), "1");
            leavesAll("not even", x -> x.even(2), "0");
        });
    }

    private static void promises20To22() {
        sentence("promise 20", "-128 a GAP", () -> {
            MemoryRows x = withRow(GAP, 0, GAP);
            due("at(0)", x.at(0), 100);
            due("at(1)", x.at(1), 0);
            due("at(2)", x.at(2), 100);
            leavesAllButTheTape("-127", y -> y.row(), NONE, -127);
            leavesAllButTheTape("127", y -> y.row(), NONE, 127);
            leavesAllButTheTape("100", y -> y.row(), NONE, 100);
        });
        sentence("promise 20", "empty then", () -> {
            MemoryRows x = withRow(1, 2, 3);
            due("count(4)", x.count(4), 0);
            due("the tape is empty, and so is the next ROW", x.row(), 0);
            due("count(2)", x.count(2), 0);
            due("at(0)", x.at(0), 101);
        });
        sentence("promise 20", "how many places", () -> {
            MemoryRows x = new MemoryRows();
            for (int places : new int[] {60, 59, 20, 1, 0}) {
                load(x, repeated(-3, places));
                due("row", x.row(), places);
                due("count(2)", x.count(2), places);
                due("the last", x.at(places - 1), places == 0 ? 101 : -3);
                due("behind the last", x.at(places), 101);
            }
        });
        sentence("promise 20", "NONE, and it stays, if there are more than 60", () -> {
            for (int places : new int[] {61, 62, 80, 100}) {
                leavesAllButTheTape(places + " bytes", x -> x.row(), NONE, repeated(1, places));
                leavesAllButTheTape(places + " GAPS", x -> x.row(), NONE, repeated(GAP, places));
            }
        });
        sentence("promise 20", "or a number is not as told", () -> {
            for (int number : new int[] {21, -21, 22, -127, 127, 100, 101}) {
                for (int t : new int[] {0, 1, 59}) {
                    int[] numbers = repeated(1, 60);
                    numbers[t] = number;
                    leavesAllButTheTape(number + " at " + t, x -> x.row(), NONE, numbers);
                }
            }
        });
        sentence("promise 21", "100: a GAP", () -> {
            MemoryRows x = withRow(GAP, 20, GAP);
            due("at(0)", x.at(0), 100);
            due("at(1)", x.at(1), 20);
            due("at(2)", x.at(2), 100);
        });
        sentence("promise 21", "101: no such place", () -> {
            MemoryRows x = withRow(1, GAP);
            for (int t : new int[] {2, 3, 59, 60, 61, -1, MIN, MAX}) {
                due("at(" + t + ")", x.at(t), 101);
            }
            setRow(x, repeated(1, 60));
            due("at(59)", x.at(59), 1);
            due("at(60)", x.at(60), 101);
            setRow(x, 5);
            due("what stood behind the end before", x.at(1), 101);
        });
        sentence("promise 22", "Place t (0 to 59", () -> {
            MemoryRows x = withRow(repeated(1, 60));
            due("put(0)", x.put(0, 2), true);
            due("put(59)", x.put(59, 3), true);
            due("put(60)", x.put(60, 4), false);
            due("put(61)", x.put(61, 4), false);
            due("put(-1)", x.put(-1, 4), false);
            due("count(2)", x.count(2), 60);
            due("at(0)", x.at(0), 2);
            due("at(59)", x.at(59), 3);
            due("at(60)", x.at(60), 101);
            due("at(58)", x.at(58), 1);
        });
        sentence("promise 22", "at most one behind the end)", () -> {
            MemoryRows x = new MemoryRows();
            for (int t = 0; t < 60; t++) {
                due("put two behind", x.put(t + 1, 1), false);
                due("count(2)", x.count(2), t);
                due("put one behind", x.put(t, t % 41 - 20), true);
                due("count(2)", x.count(2), t + 1);
                due("at", x.at(t), t % 41 - 20);
            }
            for (int t : new int[] {7, 8, 59, 60, -1, MIN, MAX}) {
                leavesAll("put(" + t + ", 1)", y -> number(y.put(t, 1)), "0");
            }
            MemoryRows y = withRow(1, 2, 3);
            due("put within", y.put(1, 9), true);
            due("the end stays", y.count(2), 3);
            setRow(y, 4);
            due("put one behind a shorter ROW", y.put(1, 5), true);
            due("what stood behind the end before", y.at(2), 101);
        });
        sentence("promise 22", "has a number, or (100) a GAP: true", () -> {
            MemoryRows x = withRow(1, 2);
            for (int number : new int[] {-20, 20, 0, 100}) {
                due("put(1, " + number + ")", x.put(1, number), true);
                due("at(1)", x.at(1), number);
                due("count(3)", x.count(3), number == 100 ? 1 : 0);
            }
            due("a GAP one behind the end", x.put(2, 100), true);
            due("count(3)", x.count(3), 2);
        });
        sentence("promise 22", "false, if it is not as told", () -> {
            for (int number : new int[] {21, -21, 99, 101, -100, -128, 256, MIN, MAX}) {
                leavesAll("put(0, " + number + ")", x -> number(x.put(0, number)), "0");
                leavesAll("put(6, " + number + ")", x -> number(x.put(6, number)), "0");
            }
        });
    }

    private static void promises23To25() {
        sentence("promise 23", "the number k (1 to 5) behind the end", () -> {
            MemoryRows x = withRow(20);
            addRule(x, 0, 4, 1, 0, 1, -3);
            long[] tops = {-15, 45, -135, 405, -1215};
            long[] bottoms = {1, 4, 16, 64, 256};
            for (int k = 1; k <= 5; k++) {
                int far = k;
                fraction("next " + k, what -> x.next(0, far, what), tops[k - 1], bottoms[k - 1]);
            }
            for (int k : new int[] {0, 6, -1, MIN, MAX}) {
                refused("next " + k, () -> x.next(0, k, 0));
            }
            int[] numbers = repeated(1, 60);
            numbers[59] = -16;
            setRow(x, numbers);
            fraction("behind a full ROW", what -> x.next(0, 1, what), 12, 1);
            fraction("five behind a full ROW", what -> x.next(0, 5, what), 243, 64);
        });
        sentence("promise 23", "guesses standing for what is not there yet", () -> {
            MemoryRows x = withRow(20, 20, 20);
            addRule(x, 0, 1, 3, 0, 1, 8, 8, 8);
            addRule(x, 1, 1, 3, 0, 1, 0, 0, 1);
            long[] want = {480, 4160, 37280, 335360, 3014400};
            for (int k = 1; k <= 5; k++) {
                int far = k;
                fraction("next " + k, what -> x.next(0, far, what), want[k - 1], 1);
            }
            setRow(x, 9, 1, 2, 3);
            int[] round = {1, 2, 3, 1, 2};
            for (int k = 1; k <= 5; k++) {
                int far = k;
                fraction("next " + k + ", three back", what -> x.next(1, far, what), round[k - 1], 1);
            }
        });
        sentence("promise 23", "it has miss shares", () -> {
            MemoryRows x = withRow(1, 2, 3);
            addRule(x, 0, 1, 0, 1, 1, 1);
            addRule(x, 1, 1, 1, 1, 1, 1, 0);
            refused("next", () -> x.next(0, 1, 0));
            refused("next, a miss share of 0", () -> x.next(1, 1, 0));
        });
        sentence("promise 23", "one of the last p places is none", () -> {
            for (int p = 0; p <= 3; p++) {
                MemoryRows x = withRule(0, 1, p, 0, 1, repeated(1, p));
                for (int places = 0; places <= 4; places++) {
                    setRow(x, repeated(2, places));
                    due("p " + p + ", places " + places, said(() -> x.next(0, 1, 0)),
                        places < p ? REFUSED : Integer.toString(2 * p));
                }
            }
        });
        sentence("promise 23", "or a GAP", () -> {
            for (int p = 0; p <= 3; p++) {
                for (int gap = 0; gap < 5; gap++) {
                    int[] numbers = repeated(2, 5);
                    numbers[gap] = GAP;
                    MemoryRows x = withRow(numbers);
                    addRule(x, 0, 1, p, 0, 1, repeated(1, p));
                    due("p " + p + ", GAP at " + gap, said(() -> x.next(0, 1, 0)),
                        gap >= 5 - p ? REFUSED : Integer.toString(2 * p));
                }
            }
        });
        sentence("promise 23", "another k or what", () -> {
            MemoryRows x = withRow(1, 2, 3);
            addRule(x, 0, 2, 1, 0, 1, 1);
            for (int k = 1; k <= 5; k++) {
                int far = k;
                onlyTwoParts("next " + k, what -> x.next(0, far, what));
            }
            refused("k 0", () -> x.next(0, 0, 1));
            refused("k 6", () -> x.next(0, 6, 1));
        });
        sentence("promise 23", "NoSuchElementException: no RULE", () -> {
            MemoryRows x = withRow(1, 2, 3);
            refused("an empty slot", () -> x.next(0, 1, 0));
            for (int s : NO_SLOTS) {
                refused("slot " + s, () -> x.next(s, 1, 0));
            }
        });
        sentence("promise 24", "How many places are WHOLE by the RULE", () -> {
            MemoryRows x = withRow(repeated(1, 60));
            addRule(x, 0, 1, 0, 0, 1);
            addRule(x, 1, 1, 3, 0, 1, 0, 0, 0);
            due("all 60", x.whole(0), 60);
            due("57", x.whole(1), 57);
            setRow(x, repeated(GAP, 60));
            due("GAPS alone", x.whole(0), 0);
            due("GAPS alone", x.whole(1), 0);
            setRow(x);
            due("an empty ROW", x.whole(0), 0);
            due("an empty ROW", x.whole(1), 0);
        });
        sentence("promise 24", "NONE: no RULE, or it has miss shares", () -> {
            leavesAll("whole of an empty slot", x -> x.whole(3), "-1");
            leavesAll("whole with miss shares", x -> x.whole(1), "-1");
            for (int s : NO_SLOTS) {
                leavesAll("whole(" + s + ")", x -> x.whole(s), "-1");
            }
            MemoryRows x = withRow(1, 2);
            addRule(x, 0, 1, 0, 1, 1, 0);
            due("a miss share of 0", x.whole(0), NONE);
        });
        sentence("promise 25", "NoSuchElementException: no RULE, it has miss shares", () -> {
            MemoryRows x = withRow(1, 2);
            refused("no RULE", () -> x.squares(0, 0));
            addRule(x, 0, 1, 0, 1, 1, 0);
            refused("a miss share of 0", () -> x.squares(0, 0));
            for (int s : NO_SLOTS) {
                refused("squares(" + s + ")", () -> x.squares(s, 0));
            }
            addRule(x, 0, 1, 0, 0, 1);
            fraction("without miss shares", what -> x.squares(0, what), 5, 1);
        });
        sentence("promise 25", "or another what", () -> {
            MemoryRows x = withRow(1, 2);
            addRule(x, 0, 2, 1, 0, 1, 1);
            onlyTwoParts("squares", what -> x.squares(0, what));
        });
    }

    private static void promises26To27() {
        sentence("promise 26", "how many GAPS are filled", () -> {
            MemoryRows x = withRow(GAP);
            addRule(x, 0, 3, 0, 0, 1);
            due("a ROW of one GAP", x.fill(0), 1);
            fraction("by no share", what -> x.filled(0, what), 0, 1);
            int[] numbers = repeated(20, 60);
            numbers[0] = GAP;
            numbers[30] = GAP;
            numbers[59] = GAP;
            setRow(x, numbers);
            addRule(x, 0, 1, 1, 0, 1, 1);
            due("the first, a middle one and the last of 60", x.fill(0), 3);
            for (int g = 0; g < 3; g++) {
                int gap = g;
                fraction("GAP " + g, what -> x.filled(gap, what), 20, 1);
            }
        });
        sentence("promise 26", "0: it is not told", () -> {
            leavesAll("a GAP that no MISS feels", x -> x.fill(4), "0");
            MemoryRows x = withRow(1, 2, 3);
            addRule(x, 0, 1, 1, 0, 1, 1);
            due("no GAP", x.fill(0), 0);
            refused("filled", () -> x.filled(0, 0));
            setRow(x, GAP, 1, GAP, 2, GAP, 3, GAP);
            due("four GAPS", x.fill(0), 0);
            refused("filled", () -> x.filled(0, 0));
        });
        sentence("promise 26", "NONE: no RULE, or it has miss shares", () -> {
            leavesAll("fill of an empty slot", x -> x.fill(3), "-1");
            leavesAll("fill with miss shares", x -> x.fill(1), "-1");
            for (int s : NO_SLOTS) {
                leavesAll("fill(" + s + ")", x -> x.fill(s), "-1");
            }
            MemoryRows x = withRow(1, 2);
            addRule(x, 0, 1, 1, 1, 1, 1, 0);
            due("a miss share of 0, and no GAP", x.fill(0), NONE);
            due("no RULE, and no GAP", x.fill(1), NONE);
        });
        sentence("promise 26", "(The ROW stays as it is.)", () -> {
            MemoryRows x = withRow(3, GAP, GAP, GAP, 7);
            addRule(x, 0, 1, 2, 0, 1, 2, -1);
            due("fill", x.fill(0), 3);
            due("count(3)", x.count(3), 3);
            int[] want = {3, 100, 100, 100, 7, 101};
            for (int t = 0; t < want.length; t++) {
                due("at(" + t + ")", x.at(t), want[t]);
            }
        });
        sentence("promise 27", "What the latest fill() above 0 puts into GAP g (0 the first)", () -> {
            MemoryRows x = withRow(3, GAP, GAP, GAP, 7);
            addRule(x, 0, 1, 2, 0, 1, 2, -1);
            addRule(x, 1, 1, 0, 0, 1);
            addRule(x, 2, 1, 3, 0, 1, 0, 0, 0);
            addRule(x, 3, 1, 0, 1, 1, 1);
            due("fill", x.fill(0), 3);
            long[] want = {4, 5, 6};
            for (int g = 0; g < 3; g++) {
                int gap = g;
                fraction("GAP " + g, what -> x.filled(gap, what), want[g], 1);
            }
            due("a fill of 0", x.fill(2), 0);
            due("a fill of NONE", x.fill(3), NONE);
            fraction("they leave the latest above 0", what -> x.filled(2, what), 6, 1);
            due("a later fill above 0", x.fill(1), 3);
            fraction("the latest", what -> x.filled(2, what), 0, 1);
        });
        sentence("promise 27", "NoSuchElementException: there is none such", () -> {
            MemoryRows x = withRow(3, GAP, GAP, GAP, 7);
            addRule(x, 0, 1, 2, 0, 1, 2, -1);
            addRule(x, 1, 1, 1, 0, 1, 1);
            refused("no fill yet", () -> x.filled(0, 0));
            due("no RULE", x.fill(4), NONE);
            refused("no fill above 0 yet", () -> x.filled(0, 0));
            due("fill", x.fill(0), 3);
            for (int g : new int[] {3, 4, -1, MIN, MAX}) {
                refused("GAP " + g, () -> x.filled(g, 0));
            }
            setRow(x, 1, GAP, 3);
            due("a shorter fill", x.fill(1), 1);
            fraction("its GAP", what -> x.filled(0, what), 2, 1);
            refused("a GAP of the fill before", () -> x.filled(1, 0));
            refused("a GAP of the fill before", () -> x.filled(2, 0));
        });
        sentence("promise 27", "another what", () -> {
            MemoryRows x = furnished();
            onlyTwoParts("filled", what -> x.filled(0, what));
        });
        sentence("promise 27", "or the ROW was changed since", () -> {
            changesTheFilling("a number for the GAP", x -> due("put", x.put(2, 1), true));
            changesTheFilling("another number", x -> due("put", x.put(0, 7), true));
            changesTheFilling("one more GAP", x -> due("put", x.put(0, 100), true));
            changesTheFilling("one more place", x -> due("put", x.put(6, 1), true));
            changesTheFilling("another ROW", x -> setRow(x, GAP, 1, 2, 3));
            changesTheFilling("an empty ROW", x -> setRow(x));
            changesTheFilling("there and back", x -> due("put", x.put(0, 7) && x.put(0, 1), true));
        });
        sentence("promise 27", "or the ROW was changed since (a refused change is none)", () -> {
            MemoryRows x = furnished();
            due("put", x.put(7, 1), false);
            due("put", x.put(2, 21), false);
            load(x, 1, 2, 21);
            due("row", x.row(), NONE);
            load(x, repeated(1, 61));
            due("row", x.row(), NONE);
            addRule(x, 0, 1, 0, 0, 1);
            due("given", give(x, 0, 5), true);
            fraction("filled", what -> x.filled(0, what), 12, 5);
        });
    }

    private static void changesTheFilling(String name, Consumer<MemoryRows> change) {
        MemoryRows x = furnished();
        fraction("filled ahead of " + name, what -> x.filled(0, what), 12, 5);
        change.accept(x);
        refused("filled behind " + name, () -> x.filled(0, 0));
        refused("filled behind " + name, () -> x.filled(0, 1));
    }

    private static void promises28To30() {
        sentence("promise 28", "NONE: no RULE, it has miss shares, the ROW has a GAP", () -> {
            leavesAll("the ROW has a GAP", x -> x.amiss(0), "-1");
            leavesAll("no RULE", x -> x.amiss(3), "-1");
            leavesAll("miss shares", x -> x.amiss(1), "-1");
            for (int s : NO_SLOTS) {
                leavesAll("amiss(" + s + ")", x -> x.amiss(s), "-1");
            }
            MemoryRows x = withRow(1, 2, 3);
            addRule(x, 0, 1, 1, 1, 1, 1, 0);
            due("a miss share of 0", x.amiss(0), NONE);
            due("no RULE", x.amiss(1), NONE);
            due("slot 6", x.amiss(6), NONE);
            refused("lower", () -> x.lower(0));
        });
        sentence("promise 28", "or not more than p places", () -> {
            for (int p = 0; p <= 3; p++) {
                for (int places = 0; places <= 5; places++) {
                    MemoryRows x = withRule(0, 1, p, 0, 1, repeated(0, p));
                    int[] numbers = repeated(0, places);
                    if (places > 0) {
                        numbers[places - 1] = 3;
                    }
                    setRow(x, numbers);
                    due("p " + p + ", places " + places, x.amiss(0), places > p ? places - 1 : NONE);
                    due("lower", said(() -> x.lower(0)), places > p ? "9" : REFUSED);
                }
            }
        });
        sentence("promise 28", "AMISS by the RULE: the place", () -> {
            MemoryRows x = withRule(0, 1, 0, 0, 1);
            for (int t : new int[] {0, 1, 30, 58, 59}) {
                int[] numbers = repeated(19, 60);
                numbers[t] = -20;
                setRow(x, numbers);
                due("the place of 60", x.amiss(0), t);
                fraction("lower", what -> x.lower(what), 400, 1);
            }
        });
        sentence("promise 29", "by the latest amiss() that was not NONE", () -> {
            MemoryRows x = withRow(0, 3);
            addRule(x, 0, 1, 0, 0, 1);
            due("amiss", x.amiss(0), 1);
            fraction("lower", what -> x.lower(what), 9, 1);
            setRow(x, 0, GAP);
            due("amiss", x.amiss(0), NONE);
            due("amiss", x.amiss(5), NONE);
            setRow(x);
            due("amiss", x.amiss(0), NONE);
            fraction("those of NONE leave it", what -> x.lower(what), 9, 1);
            setRow(x, 4, 0);
            fraction("another ROW leaves it", what -> x.lower(what), 9, 1);
            due("amiss", x.amiss(0), 0);
            fraction("the latest", what -> x.lower(what), 16, 1);
            setRow(x, 0, 0);
            due("amiss", x.amiss(0), 0);
            fraction("the latest, and nothing lower", what -> x.lower(what), 0, 1);
        });
        sentence("promise 29", "NoSuchElementException: there was none, or another what", () -> {
            MemoryRows x = new MemoryRows();
            refused("a new object", () -> x.lower(0));
            refused("a new object", () -> x.lower(1));
            due("amiss", x.amiss(0), NONE);
            refused("an amiss of NONE alone", () -> x.lower(0));
            setRow(x, 1);
            addRule(x, 0, 1, 0, 0, 1);
            due("amiss", x.amiss(0), 0);
            fraction("lower", what -> x.lower(what), 1, 1);
            onlyTwoParts("lower", what -> x.lower(what));
        });
        sentence("promise 30", "0 RULES, 1 LIKENESSES, 2 places of the ROW, 3 GAPS, 4 bytes of the tape", () -> {
            MemoryRows x = furnished();
            long[] want = {4, 4, 6, 1, 7};
            for (int what = 0; what <= 4; what++) {
                due("count(" + what + ")", x.count(what), want[what]);
            }
            addRule(x, 0, 1, 0, 0, 1);
            due("a RULE in place of another", x.count(0), 4);
            due("given", give(x, 0, 1), true);
            due("LIKENESSES in place of others", x.count(1), 4);
            setRow(x, repeated(GAP, 60));
            due("60 places", x.count(2), 60);
            due("60 GAPS", x.count(3), 60);
            setRow(x, 1);
            due("GAPS of the ROW before", x.count(3), 0);
            load(x, repeated(1, 100));
            due("100 bytes", x.count(4), 100);
        });
        sentence("promise 30", "NONE for another what", () -> {
            for (int what : new int[] {-1, 5, 6, MIN, MAX}) {
                leavesAll("count(" + what + ")", x -> x.count(what), "-1");
            }
        });
        sentence("what it is", "at most 512 calls", () -> {
            MemoryRows x = new MemoryRows();
            for (int call = 1; call <= 511; call++) {
                due("feed", x.feed(1, 1, 1, 1, 1), call <= 5 ? 20 * call : NONE);
            }
            due("the 512th call", x.count(4), 100);
        });
    }
}
