import java.util.NoSuchElementException;

/** A bench for rows of numbers whose next is a told sum of those before and of fresh misses. */
public final class MemoryRows {
    public static final int NONE = -1;

    private static final int SLOTS = 6;
    private static final int MOST_BYTES = 100;
    private static final int BYTES_A_FEED = 20;
    private static final int MOST_SHARES = 3;
    private static final int SHARE_SIZE = 8;
    private static final int MOST_Q = 4;
    private static final int MOST_SPREAD = 20;
    private static final int FARTHEST = 8;
    private static final int MOST_LIKENESSES = 5;
    private static final int MOST_R0 = 1000;
    private static final int MOST_PLACES = 60;
    private static final int NUMBER_SIZE = 20;
    private static final int GAP = 100;
    private static final int NO_PLACE = 101;
    private static final int GAP_BYTE = -128;
    private static final int MOST_FILLED = 3;
    private static final int MOST_GUESSES = 5;
    private static final int MOST_UNKNOWN = 4;

    private final Tape tape;
    private final Rule[] rules;
    private final Likenesses[] likenesses;
    private final Row places;
    private final Equations equations;
    private final LikeSums likeSums;
    private final LikeSums otherSums;
    private final long[] series;
    private final long[] guesses;
    private final int[] drawn;
    private final Fraction answer;
    private final Fraction other;
    private final Fraction[] fillings;
    private int fillingsTold;
    private final Fraction drop;
    private boolean dropTold;

    public MemoryRows() {
        tape = new Tape();
        rules = new Rule[SLOTS];
        likenesses = new Likenesses[SLOTS];
        for (int s = 0; s < SLOTS; s++) {
            rules[s] = new Rule();
            likenesses[s] = new Likenesses();
        }
        places = new Row();
        equations = new Equations();
        likeSums = new LikeSums();
        otherSums = new LikeSums();
        series = new long[FARTHEST + 1];
        guesses = new long[MOST_SHARES + MOST_GUESSES];
        drawn = new int[MOST_LIKENESSES];
        answer = new Fraction();
        other = new Fraction();
        fillings = new Fraction[MOST_FILLED];
        for (int g = 0; g < MOST_FILLED; g++) {
            fillings[g] = new Fraction();
        }
        drop = new Fraction();
    }

    public int feed(int a, int b, int c, int d, int e) {
        if (tape.length + BYTES_A_FEED > MOST_BYTES) {
            return NONE;
        }
        tape.append(a);
        tape.append(b);
        tape.append(c);
        tape.append(d);
        tape.append(e);
        return tape.length;
    }

    public boolean end(int n) {
        if (n < 0 || n > tape.length) {
            return false;
        }
        tape.length = n;
        return true;
    }

    public boolean rule(int s, int q, int p, int m, int spread) {
        int length = tape.length;
        // The tape is used up whether or not the rule is taken; its bytes stay readable for this call.
        tape.length = 0;
        if (!isSlot(s) || !isWithin(q, 1, MOST_Q) || !isWithin(spread, 1, MOST_SPREAD)) {
            return false;
        }
        if (!isWithin(p, 0, MOST_SHARES) || !isWithin(m, 0, MOST_SHARES) || length != p + m) {
            return false;
        }
        if (!tape.isEachWithin(length, SHARE_SIZE)) {
            return false;
        }
        rules[s].take(tape.bytes, q, p, m, spread);
        return true;
    }

    public int steady(int s) {
        Rule rule = toldRule(s);
        if (rule == null) {
            return NONE;
        }
        return rule.diesAway() ? 1 : 0;
    }

    public int clear(int s) {
        Rule rule = toldRule(s);
        if (rule == null) {
            return NONE;
        }
        return rule.showsMisses() ? 1 : 0;
    }

    public long weight(int s, int k, boolean old, int what) throws NoSuchElementException {
        Rule rule = toldRule(s);
        if (rule == null || !isWithin(k, 0, FARTHEST) || !isPart(what)) {
            throw new NoSuchElementException("no such weight");
        }
        rule.weigh(old, series);
        answer.set(series[k], power(rule.q, k));
        return answer.part(what);
    }

    public long like(int s, int k, int what) throws NoSuchElementException {
        Rule rule = toldRule(s);
        if (rule == null || !rule.diesAway() || !isWithin(k, 0, FARTHEST) || !isPart(what)) {
            throw new NoSuchElementException("no such like");
        }
        likeSums.find(rule, equations, series);
        answer.set(likeSums.tops[k], likeSums.bottom);
        return answer.part(what);
    }

    public int same(int s, int t) {
        Rule one = toldRule(s);
        Rule two = toldRule(t);
        if (one == null || two == null || !one.diesAway() || !two.diesAway()) {
            return NONE;
        }
        likeSums.find(one, equations, series);
        otherSums.find(two, equations, series);
        for (int k = 0; k <= FARTHEST; k++) {
            answer.set(likeSums.tops[k], likeSums.bottom);
            other.set(otherSums.tops[k], otherSums.bottom);
            if (!answer.isLike(other)) {
                return 0;
            }
        }
        return 1;
    }

    public boolean given(int s) {
        int length = tape.length;
        tape.length = 0;
        if (!isSlot(s) || length % 2 != 0 || length / 2 > MOST_LIKENESSES) {
            return false;
        }
        int told = length / 2;
        for (int k = 0; k < told; k++) {
            drawn[k] = tape.pair(k);
        }
        return takeDrawn(s, told);
    }

    public boolean counted(int s, int n) {
        if (!isSlot(s) || !isWithin(n, 0, MOST_LIKENESSES - 1) || places.gapCount() > 0) {
            return false;
        }
        for (int k = 0; k <= n; k++) {
            drawn[k] = places.productsAt(k);
        }
        return takeDrawn(s, n + 1);
    }

    public boolean joined(int s, int t, int u) {
        Likenesses one = toldLikenesses(t);
        Likenesses two = toldLikenesses(u);
        if (!isSlot(s) || one == null || two == null) {
            return false;
        }
        int told = Math.min(one.told, two.told);
        for (int k = 0; k < told; k++) {
            drawn[k] = one.values[k] + two.values[k];
        }
        return takeDrawn(s, told);
    }

    public boolean thin(int s, int t) {
        Likenesses from = toldLikenesses(t);
        if (!isSlot(s) || from == null) {
            return false;
        }
        int told = (from.told + 1) / 2;
        for (int k = 0; k < told; k++) {
            drawn[k] = from.values[2 * k];
        }
        return takeDrawn(s, told);
    }

    public int likeness(int s, int k) throws NoSuchElementException {
        Likenesses from = toldLikenesses(s);
        if (from == null || k < 0 || k >= from.told) {
            throw new NoSuchElementException("no such likeness");
        }
        return from.values[k];
    }

    public int steps(int s) {
        Likenesses from = toldLikenesses(s);
        if (from == null) {
            return NONE;
        }
        return from.stepsThere(equations);
    }

    public long share(int s, int k, int j, int what) throws NoSuchElementException {
        Likenesses from = toldLikenesses(s);
        if (from == null || j < 1 || j > k || k > from.stepsThere(equations) || !isPart(what)) {
            throw new NoSuchElementException("no such share");
        }
        from.solveStep(k, equations);
        answer.set(equations.tops[j - 1], equations.bottom);
        return answer.part(what);
    }

    public long left(int s, int k, int what) throws NoSuchElementException {
        Likenesses from = toldLikenesses(s);
        if (from == null || k < 0 || k > from.stepsThere(equations) || !isPart(what)) {
            throw new NoSuchElementException("no such step");
        }
        from.solveStep(k, equations);
        answer.set(from.restTop(k, equations), equations.bottom);
        return answer.part(what);
    }

    public int solid(int s) {
        Likenesses from = toldLikenesses(s);
        if (from == null) {
            return NONE;
        }
        return from.holds(equations) ? 1 : 0;
    }

    public int even(int s) {
        Likenesses from = toldLikenesses(s);
        if (from == null || from.told > 3) {
            return NONE;
        }
        return from.isNowhereBelowZero() ? 1 : 0;
    }

    public int row() {
        int length = tape.length;
        tape.length = 0;
        if (length > MOST_PLACES || !tape.isEachPlace(length)) {
            return NONE;
        }
        places.take(tape.bytes, length);
        fillingsTold = 0;
        return length;
    }

    public int at(int t) {
        if (t < 0 || t >= places.length) {
            return NO_PLACE;
        }
        return places.numbers[t];
    }

    public boolean put(int t, int x) {
        if (!isWithin(t, 0, MOST_PLACES - 1) || t > places.length) {
            return false;
        }
        if (x != GAP && !isWithin(x, -NUMBER_SIZE, NUMBER_SIZE)) {
            return false;
        }
        places.write(t, x);
        fillingsTold = 0;
        return true;
    }

    public long next(int s, int k, int what) throws NoSuchElementException {
        Rule rule = plainRule(s);
        if (rule == null || !isWithin(k, 1, MOST_GUESSES) || !isPart(what) || !places.endsWhole(rule.p)) {
            throw new NoSuchElementException("no such guess");
        }
        places.guessOn(rule, guesses);
        answer.set(guesses[rule.p + k - 1], power(rule.q, MOST_GUESSES));
        return answer.part(what);
    }

    public int whole(int s) {
        Rule rule = plainRule(s);
        if (rule == null) {
            return NONE;
        }
        return places.wholeCount(rule);
    }

    public long squares(int s, int what) throws NoSuchElementException {
        Rule rule = plainRule(s);
        if (rule == null || !isPart(what)) {
            throw new NoSuchElementException("no such squares");
        }
        answer.set(places.squaresTop(rule), power(rule.q, 2));
        return answer.part(what);
    }

    public int fill(int s) {
        Rule rule = plainRule(s);
        if (rule == null) {
            return NONE;
        }
        int gaps = places.gapCount();
        if (!isWithin(gaps, 1, MOST_FILLED)) {
            return 0;
        }
        places.askForGaps(rule, gaps, equations);
        if (!equations.solve(gaps)) {
            return 0;
        }
        for (int g = 0; g < gaps; g++) {
            fillings[g].set(equations.tops[g], equations.bottom);
        }
        fillingsTold = gaps;
        return gaps;
    }

    public long filled(int g, int what) throws NoSuchElementException {
        if (g < 0 || g >= fillingsTold || !isPart(what)) {
            throw new NoSuchElementException("no such filling");
        }
        return fillings[g].part(what);
    }

    public int amiss(int s) {
        Rule rule = plainRule(s);
        if (rule == null || places.gapCount() > 0 || places.length <= rule.p) {
            return NONE;
        }
        int worst = places.worstPlace(rule);
        long pulled = places.pulledMisses(rule, worst);
        long pulls = places.squaredPulls(rule, worst);
        // A place that no miss feels has no pulls; nothing gets lower there.
        drop.set(pulled * pulled, pulls == 0 ? 1 : pulls * power(rule.q, 2));
        dropTold = true;
        return worst;
    }

    public long lower(int what) throws NoSuchElementException {
        if (!dropTold || !isPart(what)) {
            throw new NoSuchElementException("nothing was found amiss");
        }
        return drop.part(what);
    }

    public int count(int what) {
        switch (what) {
            case 0:
                return ruleCount();
            case 1:
                return likenessesCount();
            case 2:
                return places.length;
            case 3:
                return places.gapCount();
            case 4:
                return tape.length;
            default:
                return NONE;
        }
    }

    private int ruleCount() {
        int sum = 0;
        for (int s = 0; s < SLOTS; s++) {
            sum += rules[s].told ? 1 : 0;
        }
        return sum;
    }

    private int likenessesCount() {
        int sum = 0;
        for (int s = 0; s < SLOTS; s++) {
            sum += likenesses[s].told > 0 ? 1 : 0;
        }
        return sum;
    }

    private Rule toldRule(int s) {
        if (!isSlot(s) || !rules[s].told) {
            return null;
        }
        return rules[s];
    }

    private Rule plainRule(int s) {
        Rule rule = toldRule(s);
        if (rule == null || rule.m > 0) {
            return null;
        }
        return rule;
    }

    private Likenesses toldLikenesses(int s) {
        if (!isSlot(s) || likenesses[s].told == 0) {
            return null;
        }
        return likenesses[s];
    }

    private boolean takeDrawn(int s, int told) {
        if (!areLikenesses(drawn, told)) {
            return false;
        }
        likenesses[s].take(drawn, told);
        return true;
    }

    private static boolean areLikenesses(int[] values, int told) {
        if (told < 1 || !isWithin(values[0], 1, MOST_R0)) {
            return false;
        }
        for (int k = 1; k < told; k++) {
            if (!isWithin(values[k], -values[0], values[0])) {
                return false;
            }
        }
        return true;
    }

    private static boolean isSlot(int s) {
        return isWithin(s, 0, SLOTS - 1);
    }

    private static boolean isPart(int what) {
        return what == 0 || what == 1;
    }

    private static boolean isWithin(int x, int least, int most) {
        return x >= least && x <= most;
    }

    private static long power(long base, int times) {
        long product = 1;
        for (int i = 0; i < times; i++) {
            product *= base;
        }
        return product;
    }

    /** A fraction in its lowest terms; it is set again and again, so that no call makes a new one. */
    private static final class Fraction {
        private long top;
        private long bottom = 1;

        void set(long newTop, long newBottom) {
            long divisor = commonDivisor(newTop, newBottom);
            if (newBottom < 0) {
                divisor = -divisor;
            }
            top = newTop / divisor;
            bottom = newBottom / divisor;
        }

        long part(int what) {
            return what == 0 ? top : bottom;
        }

        boolean isLike(Fraction that) {
            return top == that.top && bottom == that.bottom;
        }

        private static long commonDivisor(long x, long y) {
            long a = Math.abs(x);
            long b = Math.abs(y);
            // Two longs need fewer than a hundred rounds.
            for (int i = 0; i < 200 && b != 0; i++) {
                long rest = a % b;
                a = b;
                b = rest;
            }
            return a > 0 ? a : 1;
        }
    }

    private static final class Tape {
        private final byte[] bytes = new byte[MOST_BYTES];
        private int length;

        void append(int number) {
            for (int shift = 24; shift >= 0 && length < MOST_BYTES; shift -= 8) {
                bytes[length] = (byte) (number >> shift);
                length++;
            }
        }

        int pair(int k) {
            return bytes[2 * k] * 256 + (bytes[2 * k + 1] & 255);
        }

        boolean isEachWithin(int until, int size) {
            for (int i = 0; i < until; i++) {
                if (!isWithin(bytes[i], -size, size)) {
                    return false;
                }
            }
            return true;
        }

        boolean isEachPlace(int until) {
            for (int i = 0; i < until; i++) {
                if (bytes[i] != GAP_BYTE && !isWithin(bytes[i], -NUMBER_SIZE, NUMBER_SIZE)) {
                    return false;
                }
            }
            return true;
        }
    }

    private static final class Rule {
        private boolean told;
        private int q = 1;
        private int p;
        private int m;
        private int spread = 1;
        // Shares stand at 1 .. 3; those behind p or m are 0, so that sums need not ask for p and m.
        private final int[] back = new int[MOST_SHARES + 1];
        private final int[] miss = new int[MOST_SHARES + 1];
        private final long[] poly = new long[MOST_SHARES + 1];

        void take(byte[] bytes, int newQ, int newP, int newM, int newSpread) {
            told = true;
            q = newQ;
            p = newP;
            m = newM;
            spread = newSpread;
            for (int i = 1; i <= MOST_SHARES; i++) {
                back[i] = i <= p ? bytes[i - 1] : 0;
                miss[i] = i <= m ? bytes[p + i - 1] : 0;
            }
        }

        boolean diesAway() {
            poly[0] = q;
            for (int i = 1; i <= MOST_SHARES; i++) {
                poly[i] = -back[i];
            }
            return polyHasNoInnerRoot();
        }

        boolean showsMisses() {
            poly[0] = q;
            for (int i = 1; i <= MOST_SHARES; i++) {
                poly[i] = miss[i];
            }
            return polyHasNoInnerRoot();
        }

        // Schur's test: each round lowers the degree and keeps whether a root has size 1 or less.
        private boolean polyHasNoInnerRoot() {
            for (int degree = MOST_SHARES; degree >= 1; degree--) {
                long first = poly[0];
                long last = poly[degree];
                if (Math.abs(first) <= Math.abs(last)) {
                    return false;
                }
                for (int i = 0; 2 * i <= degree; i++) {
                    long low = poly[i];
                    long high = poly[degree - i];
                    poly[i] = first * low - last * high;
                    poly[degree - i] = first * high - last * low;
                }
            }
            return true;
        }

        // Entry k comes out times q to the k, which keeps all of them whole.
        void weigh(boolean old, long[] series) {
            int[] lead = old ? back : miss;
            int[] echo = old ? miss : back;
            long sign = old ? -1 : 1;
            series[0] = 1;
            for (int k = 1; k <= FARTHEST; k++) {
                long sum = k <= MOST_SHARES ? lead[k] * power(q, k - 1) : 0;
                for (int i = 1; i <= MOST_SHARES && i <= k; i++) {
                    sum += echo[i] * power(q, i - 1) * series[k - i];
                }
                series[k] = sign * sum;
            }
        }

        // What the number that far back counts in q times the miss.
        int pull(int distance) {
            if (distance == 0) {
                return q;
            }
            return isWithin(distance, 1, MOST_SHARES) ? -back[distance] : 0;
        }
    }

    /** As many linear equations as unknowns, up to four, of whole numbers, solved by determinants. */
    private static final class Equations {
        private final long[][] cells = new long[MOST_UNKNOWN][MOST_UNKNOWN];
        private final long[] right = new long[MOST_UNKNOWN];
        private final long[] tops = new long[MOST_UNKNOWN];
        private final long[] minors = new long[1 << MOST_UNKNOWN];
        private long bottom = 1;

        void wipeCells() {
            for (int i = 0; i < MOST_UNKNOWN; i++) {
                for (int j = 0; j < MOST_UNKNOWN; j++) {
                    cells[i][j] = 0;
                }
            }
        }

        // False, and tops stay, if there is not just one solution.
        boolean solve(int unknowns) {
            bottom = determinant(unknowns, NONE);
            if (bottom == 0) {
                bottom = 1;
                return false;
            }
            for (int i = 0; i < unknowns; i++) {
                tops[i] = determinant(unknowns, i);
            }
            return true;
        }

        // Minors of the first rows over each set of columns, by adding and multiplying alone:
        // nothing is divided, so that whole numbers suffice.
        private long determinant(int size, int replaced) {
            int sets = 1 << size;
            minors[0] = 1;
            for (int set = 1; set < sets; set++) {
                int line = Integer.bitCount(set) - 1;
                long sum = 0;
                for (int c = 0; c < size; c++) {
                    int column = 1 << c;
                    if ((set & column) == 0) {
                        continue;
                    }
                    long cell = c == replaced ? right[line] : cells[line][c];
                    long term = cell * minors[set ^ column];
                    sum += Integer.bitCount(set >> (c + 1)) % 2 == 0 ? term : -term;
                }
                minors[set] = sum;
            }
            return minors[sets - 1];
        }
    }

    /** The likes 0 to 8 of a steady rule, all over one bottom. */
    private static final class LikeSums {
        private final long[] tops = new long[FARTHEST + 1];
        private long bottom = 1;

        void find(Rule rule, Equations equations, long[] series) {
            rule.weigh(false, series);
            equations.wipeCells();
            for (int k = 0; k <= rule.p; k++) {
                equations.cells[k][k] = rule.q;
                equations.right[k] = missPart(rule, k, series);
            }
            for (int k = 0; k <= rule.p; k++) {
                for (int i = 1; i <= rule.p; i++) {
                    equations.cells[k][Math.abs(k - i)] -= rule.back[i];
                }
            }
            equations.solve(rule.p + 1);
            // Wide enough for every later division by q to leave no rest.
            long widening = power(rule.q, FARTHEST);
            bottom = equations.bottom * power(rule.q, MOST_SHARES) * widening;
            for (int k = 0; k <= rule.p; k++) {
                tops[k] = equations.tops[k] * widening;
            }
            for (int k = rule.p + 1; k <= FARTHEST; k++) {
                long sum = missPart(rule, k, series) * equations.bottom * widening;
                for (int i = 1; i <= rule.p; i++) {
                    sum += rule.back[i] * tops[k - i];
                }
                tops[k] = rule.q == 0 ? 0 : sum / rule.q;
            }
        }

        // The mean of q times the misses' part of x(t), times x(t-k), times q to the third to keep it whole.
        private static long missPart(Rule rule, int k, long[] series) {
            long sum = k == 0 ? rule.q * power(rule.q, MOST_SHARES) : 0;
            for (int j = Math.max(k, 1); j <= rule.m; j++) {
                sum += rule.miss[j] * series[j - k] * power(rule.q, MOST_SHARES - (j - k));
            }
            return rule.spread * sum;
        }
    }

    private static final class Likenesses {
        private final int[] values = new int[MOST_LIKENESSES];
        private int told;

        void take(int[] newValues, int newTold) {
            told = newTold;
            for (int k = 0; k < newTold; k++) {
                values[k] = newValues[k];
            }
        }

        void solveStep(int k, Equations equations) {
            for (int i = 0; i < k; i++) {
                equations.right[i] = values[i + 1];
                for (int j = 0; j < k; j++) {
                    equations.cells[i][j] = values[Math.abs(i - j)];
                }
            }
            equations.solve(k);
        }

        // G times the bottom of the equations of step k, which are solved already.
        long restTop(int k, Equations equations) {
            long rest = values[0] * equations.bottom;
            for (int j = 1; j <= k; j++) {
                rest -= equations.tops[j - 1] * values[j];
            }
            return rest;
        }

        // While each G is above 0, the determinants are too: each step behind it has just one row.
        int stepsThere(Equations equations) {
            for (int k = 0; k < told - 1; k++) {
                solveStep(k, equations);
                if (restTop(k, equations) <= 0) {
                    return k;
                }
            }
            return told - 1;
        }

        boolean holds(Equations equations) {
            int last = told - 1;
            if (stepsThere(equations) < last) {
                return false;
            }
            solveStep(last, equations);
            return restTop(last, equations) >= 0;
        }

        // With c for cos f the sum is 4 R2 c c + 2 R1 c + R0 - 2 R2, for c from -1 to 1.
        boolean isNowhereBelowZero() {
            int r0 = values[0];
            int r1 = told > 1 ? values[1] : 0;
            int r2 = told > 2 ? values[2] : 0;
            if (r0 + 2 * r2 < 2 * Math.abs(r1)) {
                return false;
            }
            boolean lowestBetween = r2 > 0 && Math.abs(r1) < 4 * r2;
            return !lowestBetween || 4 * r2 * (r0 - 2 * r2) >= r1 * r1;
        }
    }

    private static final class Row {
        private final int[] numbers = new int[MOST_PLACES];
        private final int[] gapPlaces = new int[MOST_FILLED];
        private int length;

        void take(byte[] bytes, int newLength) {
            length = newLength;
            for (int t = 0; t < newLength; t++) {
                numbers[t] = bytes[t] == GAP_BYTE ? GAP : bytes[t];
            }
        }

        void write(int t, int x) {
            numbers[t] = x;
            length = Math.max(length, t + 1);
        }

        int gapCount() {
            int sum = 0;
            for (int t = 0; t < length; t++) {
                sum += numbers[t] == GAP ? 1 : 0;
            }
            return sum;
        }

        int productsAt(int distance) {
            int sum = 0;
            for (int t = distance; t < length; t++) {
                sum += numbers[t] * numbers[t - distance];
            }
            return sum;
        }

        private boolean isGapless(int from, int until) {
            if (from < 0 || until > length) {
                return false;
            }
            for (int t = from; t < until; t++) {
                if (numbers[t] == GAP) {
                    return false;
                }
            }
            return true;
        }

        boolean endsWhole(int p) {
            return isGapless(length - p, length);
        }

        // The last p numbers, then the guesses, all times q to the fifth, which keeps them whole.
        void guessOn(Rule rule, long[] guesses) {
            long widening = power(rule.q, MOST_GUESSES);
            for (int i = 0; i < rule.p; i++) {
                guesses[i] = numbers[length - rule.p + i] * widening;
            }
            for (int i = rule.p; i < rule.p + MOST_GUESSES; i++) {
                long sum = 0;
                for (int j = 1; j <= rule.p; j++) {
                    sum += rule.back[j] * guesses[i - j];
                }
                guesses[i] = rule.q == 0 ? 0 : sum / rule.q;
            }
        }

        int wholeCount(Rule rule) {
            int sum = 0;
            for (int t = rule.p; t < length; t++) {
                sum += isGapless(t - rule.p, t + 1) ? 1 : 0;
            }
            return sum;
        }

        // q times the miss at a place from p on, 0 standing in the gaps.
        private long missAt(Rule rule, int t) {
            long sum = 0;
            for (int distance = 0; distance <= rule.p; distance++) {
                int x = numbers[t - distance];
                sum += x == GAP ? 0 : rule.pull(distance) * x;
            }
            return sum;
        }

        long squaresTop(Rule rule) {
            long sum = 0;
            for (int t = rule.p; t < length; t++) {
                if (isGapless(t - rule.p, t + 1)) {
                    long miss = missAt(rule, t);
                    sum += miss * miss;
                }
            }
            return sum;
        }

        // The misses are q times too large on both sides alike.
        void askForGaps(Rule rule, int gaps, Equations equations) {
            findGaps(gaps);
            for (int g = 0; g < gaps; g++) {
                equations.right[g] = -pulledMisses(rule, gapPlaces[g]);
                for (int h = 0; h < gaps; h++) {
                    equations.cells[g][h] = jointPulls(rule, gapPlaces[g], gapPlaces[h]);
                }
            }
        }

        private void findGaps(int gaps) {
            int found = 0;
            for (int t = 0; t < length && found < gaps; t++) {
                if (numbers[t] == GAP) {
                    gapPlaces[found] = t;
                    found++;
                }
            }
        }

        // Only the miss at a place itself and the p misses behind it feel the number there.
        long pulledMisses(Rule rule, int place) {
            long sum = 0;
            for (int t = Math.max(rule.p, place); t < length && t <= place + rule.p; t++) {
                sum += rule.pull(t - place) * missAt(rule, t);
            }
            return sum;
        }

        long squaredPulls(Rule rule, int place) {
            return jointPulls(rule, place, place);
        }

        private long jointPulls(Rule rule, int one, int two) {
            long sum = 0;
            for (int t = Math.max(rule.p, one); t < length && t <= one + rule.p; t++) {
                sum += rule.pull(t - one) * rule.pull(t - two);
            }
            return sum;
        }

        // What is least at a place lowers the squares by its pulled misses squared over its squared pulls.
        int worstPlace(Rule rule) {
            int worst = 0;
            long worstTop = 0;
            long worstBottom = 1;
            for (int t = 0; t < length; t++) {
                long pulled = pulledMisses(rule, t);
                long pulls = squaredPulls(rule, t);
                if (pulled * pulled * worstBottom > worstTop * pulls) {
                    worst = t;
                    worstTop = pulled * pulled;
                    worstBottom = pulls;
                }
            }
            return worst;
        }
    }
}
