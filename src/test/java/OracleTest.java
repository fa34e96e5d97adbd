import java.math.BigInteger;
import java.util.ArrayList;
import java.util.Arrays;
import java.util.List;
import java.util.NoSuchElementException;
import java.util.Random;

/**
 * Random runs of calls, told to MemoryRows and to a slow model that goes other ways: fractions without a bound,
 * Gauss' elimination, Hurwitz' test for roots, a state's covariance for likes, fillings tried out for drops.
 */
public final class OracleTest {
    private static int wrong = 0;

    public static void main(String[] args) {
        everyRuleOfThreeIsSteadyOrNot();
        widestRulesFit();
        evenAgainstSamples();
        for (int seed = 1; seed <= 1500; seed++) {
            run(seed);
        }
        System.out.println(wrong == 0 ? "the model and the class agree" : wrong + " answers differ");
        if (wrong != 0) {
            System.exit(1);
        }
    }

    private static void differ(String where, String got, String want) {
        if (!got.equals(want)) {
            wrong++;
            if (wrong <= 20) {
                System.out.println(where + " answered " + got + ", due is " + want);
            }
        }
    }

    private static void tell(MemoryRows x, byte[] bytes) {
        x.end(0);
        for (int i = 0; i < bytes.length; i += 20) {
            int[] words = new int[5];
            for (int j = 0; j < 20; j++) {
                int b = i + j < bytes.length ? bytes[i + j] & 255 : 0;
                words[j / 4] = (words[j / 4] << 8) | b;
            }
            x.feed(words[0], words[1], words[2], words[3], words[4]);
        }
        x.end(bytes.length);
    }

    private static void everyRuleOfThreeIsSteadyOrNot() {
        MemoryRows x = new MemoryRows();
        for (int q = 1; q <= 4; q++) {
            for (int i = 0; i < 17 * 17 * 17; i++) {
                int[] shares = {i / 289 - 8, i / 17 % 17 - 8, i % 17 - 8};
                int[] turned = {-shares[0], -shares[1], -shares[2]};
                tell(x, bytes(shares));
                x.rule(0, q, 3, 0, 1);
                tell(x, bytes(turned));
                x.rule(1, q, 0, 3, 1);
                String want = Model.diesAway(q, shares) ? "1" : "0";
                differ("steady of " + q + " " + Arrays.toString(shares), "" + x.steady(0), want);
                differ("clear of " + q + " " + Arrays.toString(turned), "" + x.clear(1), want);
            }
        }
    }

    private static byte[] bytes(int... numbers) {
        byte[] bytes = new byte[numbers.length];
        for (int i = 0; i < numbers.length; i++) {
            bytes[i] = (byte) numbers[i];
        }
        return bytes;
    }

    // Every steady back share of three with large miss shares: nothing may run over.
    private static void widestRulesFit() {
        Random random = new Random(5);
        MemoryRows x = new MemoryRows();
        for (int i = 0; i < 4 * 17 * 17 * 17; i++) {
            int q = 4 - i % 4;
            int[] shares = {i / 4 / 289 - 8, i / 4 / 17 % 17 - 8, i / 4 % 17 - 8};
            if (!Model.diesAway(q, shares)) {
                continue;
            }
            int[] misses = {8 - random.nextInt(2) * 16, 8 - random.nextInt(2) * 16, 8 - random.nextInt(3) * 8};
            ModelRule rule = new ModelRule(q, shares, misses, 20);
            tell(x, bytes(shares[0], shares[1], shares[2], misses[0], misses[1], misses[2]));
            x.rule(0, q, 3, 3, 20);
            Q[] likes = Model.likes(rule);
            for (int k = 0; k <= 8; k++) {
                differ("like " + k + " of " + rule, x.like(0, k, 0) + "/" + x.like(0, k, 1), likes[k].toString());
                for (int old = 0; old < 2; old++) {
                    Q want = Model.weights(rule, old == 1)[k];
                    differ("weight " + k + " of " + rule,
                        x.weight(0, k, old == 1, 0) + "/" + x.weight(0, k, old == 1, 1), want.toString());
                }
            }
        }
    }

    private static void evenAgainstSamples() {
        MemoryRows x = new MemoryRows();
        for (int r0 = 1; r0 <= 12; r0++) {
            for (int r1 = -r0; r1 <= r0; r1++) {
                for (int r2 = -r0; r2 <= r0; r2++) {
                    double least = r0;
                    for (int i = 0; i <= 1000; i++) {
                        double f = Math.PI * i / 1000;
                        least = Math.min(least, r0 + 2 * r1 * Math.cos(f) + 2 * r2 * Math.cos(2 * f));
                    }
                    tell(x, bytes(0, r0, r1 >> 8, r1, r2 >> 8, r2));
                    x.given(0);
                    // What is below 0 at all is below it by a 48th at least.
                    differ("even of " + r0 + " " + r1 + " " + r2, "" + x.even(0), least < -0.01 ? "0" : "1");
                }
            }
        }
    }

    // ---- random runs

    private static void run(int seed) {
        Random random = new Random(seed);
        MemoryRows x = new MemoryRows();
        Model model = new Model();
        int wrongBefore = wrong;
        for (int call = 0; call < 512 && wrong == wrongBefore; call++) {
            step(random, seed, call, x, model);
        }
    }

    private static int slot(Random random) {
        return random.nextInt(12) == 0 ? number(random, -2, 7) : random.nextInt(6);
    }

    private static int part(Random random) {
        return random.nextInt(15) == 0 ? number(random, -2, 3) : random.nextInt(2);
    }

    private static int number(Random random, int least, int most) {
        if (random.nextInt(60) == 0) {
            return random.nextBoolean() ? Integer.MIN_VALUE + random.nextInt(3) : Integer.MAX_VALUE - random.nextInt(3);
        }
        return random.nextInt(20) == 0 ? random.nextInt(260) - 130 : least + random.nextInt(most - least + 1);
    }

    // What a call answers, or the name of what it throws.
    private interface Call {
        Object answer();
    }

    private static String said(Call call) {
        try {
            return "" + call.answer();
        } catch (NoSuchElementException e) {
            return "NoSuchElementException";
        } catch (RuntimeException e) {
            return "threw " + e;
        }
    }

    private static void both(String name, int seed, int at, Call got, Call want) {
        differ("seed " + seed + " call " + at + ": " + name, said(got), said(want));
    }

    private static void load(Random random, MemoryRows x, Model model, byte[] bytes) {
        byte[] sent = bytes;
        if (random.nextInt(12) == 0) {
            sent = Arrays.copyOf(bytes, Math.max(0, bytes.length + random.nextInt(5) - 2));
        }
        tell(x, sent);
        model.tape = new ArrayList<>();
        for (byte b : sent) {
            model.tape.add((int) b);
        }
    }

    private static void step(Random random, int seed, int at, MemoryRows x, Model model) {
        int s = slot(random);
        int t = slot(random);
        int u = slot(random);
        int k = number(random, 0, 9);
        int what = part(random);
        int kind = random.nextInt(100);
        if (kind < 40) {
            change(kind, random, seed, at, x, model);
            return;
        }
        switch (kind % 20) {
            case 0: both("steady", seed, at, () -> x.steady(s), () -> model.steady(s)); break;
            case 1: both("clear", seed, at, () -> x.clear(s), () -> model.clear(s)); break;
            case 2: boolean old = random.nextBoolean();
                both("weight", seed, at, () -> x.weight(s, k, old, what), () -> model.weight(s, k, old, what)); break;
            case 3: both("like", seed, at, () -> x.like(s, k, what), () -> model.like(s, k, what)); break;
            case 4: both("same", seed, at, () -> x.same(s, t), () -> model.same(s, t)); break;
            case 5: int j = number(random, 0, 5);
                both("likeness", seed, at, () -> x.likeness(s, j), () -> model.likeness(s, j)); break;
            case 6: both("steps", seed, at, () -> x.steps(s), () -> model.steps(s)); break;
            case 7: int step = number(random, 1, 4);
                int of = number(random, 1, Math.max(1, Math.min(step, 4)));
                both("share", seed, at, () -> x.share(s, step, of, what), () -> model.share(s, step, of, what)); break;
            case 8: int rest = number(random, 0, 4);
                both("left", seed, at, () -> x.left(s, rest, what), () -> model.left(s, rest, what)); break;
            case 9: both("solid", seed, at, () -> x.solid(s), () -> model.solid(s)); break;
            case 10: both("even", seed, at, () -> x.even(s), () -> model.even(s)); break;
            case 11: int place = number(random, 0, 60);
                both("at", seed, at, () -> x.at(place), () -> model.at(place)); break;
            case 12: int ahead = number(random, 1, 5);
                both("next", seed, at, () -> x.next(s, ahead, what), () -> model.next(s, ahead, what)); break;
            case 13: both("whole", seed, at, () -> x.whole(s), () -> model.whole(s)); break;
            case 14: both("squares", seed, at, () -> x.squares(s, what), () -> model.squares(s, what)); break;
            case 15: both("fill", seed, at, () -> x.fill(s), () -> model.fill(s));
                for (int g = 0; g < 6; g++) {
                    int one = g;
                    both("filled", seed, at, () -> x.filled(one / 2, one % 2), () -> model.filled(one / 2, one % 2));
                }
                break;
            case 16: int gap = number(random, 0, 2);
                both("filled", seed, at, () -> x.filled(gap, what), () -> model.filled(gap, what)); break;
            case 17: both("amiss", seed, at, () -> x.amiss(s), () -> model.amiss(s));
                both("lower", seed, at, () -> x.lower(0), () -> model.lower(0));
                both("lower", seed, at, () -> x.lower(1), () -> model.lower(1));
                break;
            case 18: both("lower", seed, at, () -> x.lower(what), () -> model.lower(what)); break;
            default: int which = number(random, 0, 4);
                both("count", seed, at, () -> x.count(which), () -> model.count(which)); break;
        }
    }

    private static void change(int kind, Random random, int seed, int at, MemoryRows x, Model model) {
        int s = slot(random);
        int t = slot(random);
        int u = slot(random);
        if (kind < 10) {
            int p = random.nextInt(4);
            int m = Math.max(0, random.nextInt(7) - 3);
            int q = number(random, 1, 4);
            int spread = number(random, 1, 20);
            int size = 1 + random.nextInt(8);
            byte[] shares = new byte[p + m];
            for (int i = 0; i < p + m; i++) {
                shares[i] = (byte) (random.nextInt(60) == 0 ? 9 : random.nextInt(2 * size + 1) - size);
            }
            load(random, x, model, shares);
            int toldP = random.nextInt(15) == 0 ? number(random, -1, 4) : p;
            int toldM = random.nextInt(15) == 0 ? number(random, -1, 4) : m;
            both("rule", seed, at, () -> x.rule(s, q, toldP, toldM, spread),
                () -> model.rule(s, q, toldP, toldM, spread));
        } else if (kind < 15) {
            int r0 = 1 + random.nextInt(random.nextBoolean() ? 12 : 1002);
            int size = random.nextBoolean() ? r0 : r0 / 2;
            byte[] pairs = new byte[2 * (1 + random.nextInt(5))];
            for (int i = 0; i < pairs.length / 2; i++) {
                int r = i == 0 ? r0 : random.nextInt(2 * size + 1) - size;
                pairs[2 * i] = (byte) (r >> 8);
                pairs[2 * i + 1] = (byte) r;
            }
            load(random, x, model, pairs);
            both("given", seed, at, () -> x.given(s), () -> model.given(s));
        } else if (kind < 18) {
            int n = number(random, 0, 4);
            both("counted", seed, at, () -> x.counted(s, n), () -> model.counted(s, n));
        } else if (kind < 21) {
            both("joined", seed, at, () -> x.joined(s, t, u), () -> model.joined(s, t, u));
        } else if (kind < 23) {
            both("thin", seed, at, () -> x.thin(s, t), () -> model.thin(s, t));
        } else if (kind < 28) {
            int size = 1 + random.nextInt(20);
            int gapOdds = 2 + random.nextInt(30);
            byte[] row = new byte[random.nextInt(random.nextInt(10) == 0 ? 63 : 15)];
            for (int i = 0; i < row.length; i++) {
                boolean gap = random.nextInt(gapOdds) == 0;
                row[i] = (byte) (gap ? -128 : random.nextInt(400) == 0 ? 21 : random.nextInt(2 * size + 1) - size);
            }
            load(random, x, model, row);
            both("row", seed, at, () -> x.row(), () -> model.row());
        } else if (kind < 34) {
            int place = random.nextInt(4) == 0 ? model.row.size() : number(random, 0, 14);
            int number = random.nextInt(3) == 0 ? 100 : number(random, -20, 20);
            both("put", seed, at, () -> x.put(place, number), () -> model.put(place, number));
        } else if (kind < 37) {
            int a = random.nextInt();
            int e = random.nextInt();
            for (int i = random.nextInt(6); i >= 0; i--) {
                both("feed", seed, at, () -> x.feed(a, 0, 1, 2, e), () -> model.feed(a, 0, 1, 2, e));
            }
        } else {
            int n = number(random, 0, 110);
            both("end", seed, at, () -> x.end(n), () -> model.end(n));
        }
    }
}

/** A fraction without a bound. */
final class Q {
    static final Q ZERO = of(0);
    final BigInteger top;
    final BigInteger bottom;

    Q(BigInteger top, BigInteger bottom) {
        BigInteger divisor = top.gcd(bottom);
        if (bottom.signum() < 0) {
            divisor = divisor.negate();
        }
        this.top = top.divide(divisor);
        this.bottom = bottom.divide(divisor);
    }

    static Q of(long n) {
        return new Q(BigInteger.valueOf(n), BigInteger.ONE);
    }

    static Q of(long n, long d) {
        return new Q(BigInteger.valueOf(n), BigInteger.valueOf(d));
    }

    Q plus(Q that) {
        return new Q(top.multiply(that.bottom).add(that.top.multiply(bottom)), bottom.multiply(that.bottom));
    }

    Q times(Q that) {
        return new Q(top.multiply(that.top), bottom.multiply(that.bottom));
    }

    Q minus(Q that) {
        return plus(that.times(of(-1)));
    }

    Q by(Q that) {
        return new Q(top.multiply(that.bottom), bottom.multiply(that.top));
    }

    int sign() {
        return top.signum();
    }

    long part(int what) {
        if (what != 0 && what != 1) {
            throw new NoSuchElementException();
        }
        return (what == 0 ? top : bottom).longValueExact();
    }

    @Override
    public String toString() {
        return top + "/" + bottom;
    }
}

final class ModelRule {
    final int q;
    final int[] back;
    final int[] miss;
    final int spread;

    ModelRule(int q, int[] back, int[] miss, int spread) {
        this.q = q;
        this.back = back;
        this.miss = miss;
        this.spread = spread;
    }

    Q backShare(int i) {
        return i >= 1 && i <= back.length ? Q.of(back[i - 1], q) : Q.ZERO;
    }

    Q missShare(int i) {
        return i == 0 ? Q.of(1) : i <= miss.length ? Q.of(miss[i - 1], q) : Q.ZERO;
    }

    @Override
    public String toString() {
        return q + " " + Arrays.toString(back) + " " + Arrays.toString(miss) + " " + spread;
    }
}

final class Model {
    private static final int NONE = -1;
    List<Integer> tape = new ArrayList<>();
    // A gap is null.
    List<Integer> row = new ArrayList<>();
    private final ModelRule[] rules = new ModelRule[6];
    private final int[][] likenesses = new int[6][];
    private Q[] filling;
    private Q drop;

    // ---- sums

    // The one solution, or null if there is none or more than one.
    static Q[] solve(Q[][] cells, Q[] right) {
        int n = right.length;
        for (int c = 0; c < n; c++) {
            int pivot = c;
            while (pivot < n && cells[pivot][c].sign() == 0) {
                pivot++;
            }
            if (pivot == n) {
                return null;
            }
            Q[] line = cells[c];
            cells[c] = cells[pivot];
            cells[pivot] = line;
            Q side = right[c];
            right[c] = right[pivot];
            right[pivot] = side;
            for (int r = 0; r < n; r++) {
                if (r == c || cells[r][c].sign() == 0) {
                    continue;
                }
                Q factor = cells[r][c].by(cells[c][c]);
                for (int j = c; j < n; j++) {
                    cells[r][j] = cells[r][j].minus(factor.times(cells[c][j]));
                }
                right[r] = right[r].minus(factor.times(right[c]));
            }
        }
        Q[] answer = new Q[n];
        for (int i = 0; i < n; i++) {
            answer[i] = right[i].by(cells[i][i]);
        }
        return answer;
    }

    // The roots l of q l^3 - A1 l^2 - A2 l - A3, moved by l = (1 + w) / (1 - w), must lie left of 0.
    static boolean diesAway(int q, int[] shares) {
        long a = q;
        long b = shares.length > 0 ? -shares[0] : 0;
        long c = shares.length > 1 ? -shares[1] : 0;
        long d = shares.length > 2 ? -shares[2] : 0;
        long w3 = a - b + c - d;
        long w2 = 3 * a - b - c + 3 * d;
        long w1 = 3 * a + b - c - 3 * d;
        long w0 = a + b + c + d;
        if (w3 < 0) {
            w3 = -w3;
            w2 = -w2;
            w1 = -w1;
            w0 = -w0;
        }
        return w3 > 0 && w2 > 0 && w1 > 0 && w0 > 0 && w2 * w1 > w3 * w0;
    }

    static Q[] weights(ModelRule rule, boolean old) {
        // The rule is back(z) x = miss(z) e: one polynomial's series is divided by the other's.
        Q[] over = new Q[9];
        Q[] under = new Q[9];
        for (int k = 0; k <= 8; k++) {
            Q backPart = k == 0 ? Q.of(1) : Q.ZERO.minus(rule.backShare(k));
            over[k] = old ? backPart : rule.missShare(k);
            under[k] = old ? rule.missShare(k) : backPart;
        }
        Q[] series = new Q[9];
        for (int k = 0; k <= 8; k++) {
            Q rest = over[k];
            for (int i = 1; i <= k; i++) {
                rest = rest.minus(under[i].times(series[k - i]));
            }
            series[k] = rest;
        }
        return series;
    }

    // The state holds x(t) and what each coming number has of it already; its covariance P is F P F' + S G G'.
    static Q[] likes(ModelRule rule) {
        int n = 4;
        Q[][] f = new Q[n][n];
        Q[] g = new Q[n];
        for (int i = 0; i < n; i++) {
            for (int j = 0; j < n; j++) {
                f[i][j] = j == 0 ? rule.backShare(i + 1) : Q.of(j == i + 1 ? 1 : 0);
            }
            g[i] = rule.missShare(i);
        }
        Q[][] cells = new Q[n * n][n * n];
        Q[] right = new Q[n * n];
        for (int r = 0; r < n * n; r++) {
            int a = r / n;
            int b = r % n;
            for (int c = 0; c < n * n; c++) {
                cells[r][c] = Q.of(r == c ? 1 : 0).minus(f[a][c / n].times(f[b][c % n]));
            }
            right[r] = Q.of(rule.spread).times(g[a]).times(g[b]);
        }
        Q[] p = solve(cells, right);
        Q[] column = new Q[n];
        for (int i = 0; i < n; i++) {
            column[i] = p[i * n];
        }
        Q[] likes = new Q[9];
        for (int k = 0; k <= 8; k++) {
            likes[k] = column[0];
            Q[] moved = new Q[n];
            for (int i = 0; i < n; i++) {
                moved[i] = Q.ZERO;
                for (int j = 0; j < n; j++) {
                    moved[i] = moved[i].plus(f[i][j].times(column[j]));
                }
            }
            column = moved;
        }
        return likes;
    }

    // ---- the calls

    private ModelRule ruleAt(int s) {
        return s >= 0 && s < 6 ? rules[s] : null;
    }

    private ModelRule plainAt(int s) {
        ModelRule rule = ruleAt(s);
        return rule != null && rule.miss.length == 0 ? rule : null;
    }

    private int[] likenessesAt(int s) {
        return s >= 0 && s < 6 ? likenesses[s] : null;
    }

    private static void need(boolean holds) {
        if (!holds) {
            throw new NoSuchElementException();
        }
    }

    int feed(int... words) {
        if (tape.size() > 80) {
            return NONE;
        }
        for (int word : words) {
            for (int i = 3; i >= 0; i--) {
                tape.add((int) (byte) (word >> (8 * i)));
            }
        }
        return tape.size();
    }

    boolean end(int n) {
        if (n < 0 || n > tape.size()) {
            return false;
        }
        tape = new ArrayList<>(tape.subList(0, n));
        return true;
    }

    private List<Integer> taken() {
        List<Integer> bytes = tape;
        tape = new ArrayList<>();
        return bytes;
    }

    boolean rule(int s, int q, int p, int m, int spread) {
        List<Integer> bytes = taken();
        boolean fits = s >= 0 && s <= 5 && q >= 1 && q <= 4 && p >= 0 && p <= 3 && m >= 0 && m <= 3
            && spread >= 1 && spread <= 20 && bytes.size() == p + m;
        for (int b : bytes) {
            fits = fits && b >= -8 && b <= 8;
        }
        if (fits) {
            int[] all = bytes.stream().mapToInt(b -> b).toArray();
            rules[s] = new ModelRule(q, Arrays.copyOfRange(all, 0, p), Arrays.copyOfRange(all, p, p + m), spread);
        }
        return fits;
    }

    int steady(int s) {
        ModelRule rule = ruleAt(s);
        return rule == null ? NONE : diesAway(rule.q, rule.back) ? 1 : 0;
    }

    int clear(int s) {
        ModelRule rule = ruleAt(s);
        if (rule == null) {
            return NONE;
        }
        int[] turned = rule.miss.clone();
        for (int i = 0; i < turned.length; i++) {
            turned[i] = -turned[i];
        }
        return diesAway(rule.q, turned) ? 1 : 0;
    }

    long weight(int s, int k, boolean old, int what) {
        need(ruleAt(s) != null && k >= 0 && k <= 8);
        return weights(ruleAt(s), old)[k].part(what);
    }

    long like(int s, int k, int what) {
        need(steady(s) == 1 && k >= 0 && k <= 8);
        return likes(ruleAt(s))[k].part(what);
    }

    int same(int s, int t) {
        if (steady(s) != 1 || steady(t) != 1) {
            return NONE;
        }
        return Arrays.toString(likes(ruleAt(s))).equals(Arrays.toString(likes(ruleAt(t)))) ? 1 : 0;
    }

    private boolean keep(int s, int[] values) {
        boolean fits = s >= 0 && s <= 5 && values.length >= 1 && values.length <= 5
            && values[0] >= 1 && values[0] <= 1000;
        for (int value : values) {
            fits = fits && Math.abs(value) <= values[0];
        }
        if (fits) {
            likenesses[s] = values;
        }
        return fits;
    }

    boolean given(int s) {
        List<Integer> bytes = taken();
        if (bytes.size() % 2 != 0) {
            return false;
        }
        int[] values = new int[bytes.size() / 2];
        for (int i = 0; i < values.length; i++) {
            values[i] = (short) ((bytes.get(2 * i) << 8) | (bytes.get(2 * i + 1) & 255));
        }
        return keep(s, values);
    }

    boolean counted(int s, int n) {
        if (n < 0 || n > 4 || row.contains(null)) {
            return false;
        }
        int[] values = new int[n + 1];
        for (int k = 0; k <= n; k++) {
            for (int t = k; t < row.size(); t++) {
                values[k] += row.get(t) * row.get(t - k);
            }
        }
        return keep(s, values);
    }

    boolean joined(int s, int t, int u) {
        int[] one = likenessesAt(t);
        int[] two = likenessesAt(u);
        if (one == null || two == null) {
            return false;
        }
        int[] values = new int[Math.min(one.length, two.length)];
        for (int k = 0; k < values.length; k++) {
            values[k] = one[k] + two[k];
        }
        return keep(s, values);
    }

    boolean thin(int s, int t) {
        int[] from = likenessesAt(t);
        if (from == null) {
            return false;
        }
        List<Integer> values = new ArrayList<>();
        for (int k = 0; k < from.length; k += 2) {
            values.add(from[k]);
        }
        return keep(s, values.stream().mapToInt(v -> v).toArray());
    }

    int likeness(int s, int k) {
        int[] from = likenessesAt(s);
        need(from != null && k >= 0 && k < from.length);
        return from[k];
    }

    // F1 .. Fk and G behind them; null if there is not just one such row.
    private static Q[] stepOf(int[] r, int k) {
        Q[][] cells = new Q[k][k];
        Q[] right = new Q[k];
        for (int i = 0; i < k; i++) {
            right[i] = Q.of(r[i + 1]);
            for (int j = 0; j < k; j++) {
                cells[i][j] = Q.of(r[Math.abs(i - j)]);
            }
        }
        Q[] shares = solve(cells, right);
        if (shares == null) {
            return null;
        }
        Q[] step = Arrays.copyOf(shares, k + 1);
        step[k] = Q.of(r[0]);
        for (int j = 0; j < k; j++) {
            step[k] = step[k].minus(shares[j].times(Q.of(r[j + 1])));
        }
        return step;
    }

    private static boolean isThere(int[] r, int k) {
        if (k < 0 || k >= r.length) {
            return false;
        }
        for (int i = 0; i < k; i++) {
            Q[] ahead = stepOf(r, i);
            if (ahead == null || ahead[i].sign() <= 0) {
                return false;
            }
        }
        return stepOf(r, k) != null;
    }

    int steps(int s) {
        int[] r = likenessesAt(s);
        if (r == null) {
            return NONE;
        }
        int steps = 0;
        while (isThere(r, steps + 1)) {
            steps++;
        }
        return steps;
    }

    long share(int s, int k, int j, int what) {
        int[] r = likenessesAt(s);
        need(r != null && isThere(r, k) && j >= 1 && j <= k);
        return stepOf(r, k)[j - 1].part(what);
    }

    long left(int s, int k, int what) {
        int[] r = likenessesAt(s);
        need(r != null && isThere(r, k));
        return stepOf(r, k)[k].part(what);
    }

    int solid(int s) {
        int[] r = likenessesAt(s);
        if (r == null) {
            return NONE;
        }
        for (int k = 0; k < r.length; k++) {
            if (!isThere(r, k) || stepOf(r, k)[k].sign() < 0) {
                return 0;
            }
        }
        return 1;
    }

    int even(int s) {
        int[] r = likenessesAt(s);
        if (r == null || r.length > 3) {
            return NONE;
        }
        int[] all = Arrays.copyOf(r, 3);
        List<Q> cosines = new ArrayList<>(List.of(Q.of(1), Q.of(-1)));
        if (all[2] != 0 && Math.abs(all[1]) <= Math.abs(4 * all[2])) {
            cosines.add(Q.of(-all[1], 4 * all[2]));
        }
        for (Q c : cosines) {
            Q twice = Q.of(2).times(c).times(c).minus(Q.of(1));
            Q value = Q.of(all[0]).plus(Q.of(2 * all[1]).times(c)).plus(Q.of(2 * all[2]).times(twice));
            if (value.sign() < 0) {
                return 0;
            }
        }
        return 1;
    }

    int row() {
        List<Integer> bytes = taken();
        List<Integer> numbers = new ArrayList<>();
        for (int b : bytes) {
            if (b != -128 && (b < -20 || b > 20)) {
                return NONE;
            }
            numbers.add(b == -128 ? null : Integer.valueOf(b));
        }
        if (numbers.size() > 60) {
            return NONE;
        }
        row = numbers;
        filling = null;
        return row.size();
    }

    int at(int t) {
        if (t < 0 || t >= row.size()) {
            return 101;
        }
        return row.get(t) == null ? 100 : row.get(t);
    }

    boolean put(int t, int x) {
        if (t < 0 || t > 59 || t > row.size() || (x != 100 && (x < -20 || x > 20))) {
            return false;
        }
        if (t == row.size()) {
            row.add(null);
        }
        row.set(t, x == 100 ? null : Integer.valueOf(x));
        filling = null;
        return true;
    }

    private static Q guess(ModelRule rule, List<Q> numbers, int t) {
        Q sum = Q.ZERO;
        for (int i = 1; i <= rule.back.length; i++) {
            sum = sum.plus(rule.backShare(i).times(numbers.get(t - i)));
        }
        return sum;
    }

    private List<Q> fractions() {
        List<Q> numbers = new ArrayList<>();
        for (Integer x : row) {
            numbers.add(x == null ? null : Q.of(x));
        }
        return numbers;
    }

    long next(int s, int k, int what) {
        ModelRule rule = plainAt(s);
        need(rule != null && k >= 1 && k <= 5 && row.size() >= rule.back.length);
        need(!row.subList(row.size() - rule.back.length, row.size()).contains(null));
        List<Q> numbers = fractions();
        for (int i = 0; i < k; i++) {
            numbers.add(guess(rule, numbers, numbers.size()));
        }
        return numbers.get(numbers.size() - 1).part(what);
    }

    private static List<Q> misses(ModelRule rule, List<Q> numbers) {
        List<Q> misses = new ArrayList<>();
        for (int t = rule.back.length; t < numbers.size(); t++) {
            if (!numbers.subList(t - rule.back.length, t + 1).contains(null)) {
                misses.add(numbers.get(t).minus(guess(rule, numbers, t)));
            }
        }
        return misses;
    }

    private static Q squaresOf(ModelRule rule, List<Q> numbers) {
        Q sum = Q.ZERO;
        for (Q miss : misses(rule, numbers)) {
            sum = sum.plus(miss.times(miss));
        }
        return sum;
    }

    int whole(int s) {
        ModelRule rule = plainAt(s);
        return rule == null ? NONE : misses(rule, fractions()).size();
    }

    long squares(int s, int what) {
        ModelRule rule = plainAt(s);
        need(rule != null);
        return squaresOf(rule, fractions()).part(what);
    }

    // Squares are a paraboloid in the gaps: its slopes are had from its values at 0, 1 and pairs of 1.
    private static Q[] leastFilling(ModelRule rule, List<Q> numbers, List<Integer> gaps) {
        int n = gaps.size();
        Q[] alone = new Q[n];
        Q none = squaresWith(rule, numbers, gaps, -1, -1);
        for (int g = 0; g < n; g++) {
            alone[g] = squaresWith(rule, numbers, gaps, g, -1).minus(none);
        }
        Q[][] cells = new Q[n][n];
        Q[] right = new Q[n];
        for (int g = 0; g < n; g++) {
            Q twice = squaresWith(rule, numbers, gaps, g, g).minus(none);
            cells[g][g] = twice.minus(alone[g]).minus(alone[g]);
            right[g] = cells[g][g].by(Q.of(2)).minus(alone[g]);
            for (int h = 0; h < n; h++) {
                if (h != g) {
                    cells[g][h] = squaresWith(rule, numbers, gaps, g, h).minus(none).minus(alone[g]).minus(alone[h]);
                }
            }
        }
        return solve(cells, right);
    }

    // With 0 in all gaps but g and h, which have 1 each (2, if they are one).
    private static Q squaresWith(ModelRule rule, List<Q> numbers, List<Integer> gaps, int g, int h) {
        List<Q> tried = new ArrayList<>(numbers);
        for (int i = 0; i < gaps.size(); i++) {
            tried.set(gaps.get(i), Q.of((i == g ? 1 : 0) + (i == h ? 1 : 0)));
        }
        return squaresOf(rule, tried);
    }

    int fill(int s) {
        ModelRule rule = plainAt(s);
        if (rule == null) {
            return NONE;
        }
        List<Integer> gaps = new ArrayList<>();
        for (int t = 0; t < row.size(); t++) {
            if (row.get(t) == null) {
                gaps.add(t);
            }
        }
        if (gaps.isEmpty() || gaps.size() > 3) {
            return 0;
        }
        Q[] found = leastFilling(rule, fractions(), gaps);
        if (found == null) {
            return 0;
        }
        filling = found;
        return found.length;
    }

    long filled(int g, int what) {
        need(filling != null && g >= 0 && g < filling.length);
        return filling[g].part(what);
    }

    int amiss(int s) {
        ModelRule rule = plainAt(s);
        if (rule == null || row.contains(null) || row.size() <= rule.back.length) {
            return NONE;
        }
        List<Q> numbers = fractions();
        Q now = squaresOf(rule, numbers);
        int worst = -1;
        for (int t = 0; t < row.size(); t++) {
            Q[] best = leastFilling(rule, numbers, List.of(t));
            Q lower = Q.ZERO;
            if (best != null) {
                List<Q> mended = new ArrayList<>(numbers);
                mended.set(t, best[0]);
                lower = now.minus(squaresOf(rule, mended));
            }
            if (worst < 0 || lower.minus(drop).sign() > 0) {
                worst = t;
                drop = lower;
            }
        }
        return worst;
    }

    long lower(int what) {
        need(drop != null);
        return drop.part(what);
    }

    int count(int what) {
        switch (what) {
            case 0: return (int) Arrays.stream(rules).filter(r -> r != null).count();
            case 1: return (int) Arrays.stream(likenesses).filter(r -> r != null).count();
            case 2: return row.size();
            case 3: return (int) row.stream().filter(x -> x == null).count();
            case 4: return tape.size();
            default: return NONE;
        }
    }
}
