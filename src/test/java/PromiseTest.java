/** Each promise of the document by hand-reckoned answers: ordinary inputs, edges, wrong inputs. */
public final class PromiseTest extends Bench {
    public static void main(String[] args) {
        newObject();
        feed();
        end();
        rule();
        steady();
        clear();
        weight();
        like();
        same();
        given();
        counted();
        joined();
        thin();
        likeness();
        steps();
        share();
        left();
        solid();
        even();
        row();
        at();
        put();
        next();
        whole();
        squares();
        fill();
        filled();
        amiss();
        lower();
        count();
        finish("every promise holds");
    }

    private static void newObject() {
        about("promise 1");
        MemoryRows x = new MemoryRows();
        for (int what = 0; what <= 4; what++) {
            due("count(" + what + ")", x.count(what), 0);
        }
        for (int s = 0; s < 6; s++) {
            int slot = s;
            due("steady", x.steady(s), NONE);
            due("steps", x.steps(s), NONE);
            refused("likeness", () -> x.likeness(slot, 0));
        }
        due("at(0)", x.at(0), 101);
        refused("lower", () -> x.lower(0));
        refused("filled", () -> x.filled(0, 0));
        due("NONE", MemoryRows.NONE, -1);
    }

    private static void feed() {
        about("promise 2");
        MemoryRows x = new MemoryRows();
        due("feed", x.feed(0x01020304, 0x05060708, 0x090A0B0C, 0x0D0E0F10, 0x11121314), 20);
        due("row", x.row(), 20);
        for (int t = 0; t < 20; t++) {
            due("at", x.at(t), t + 1);
        }
        due("feed", x.feed(0xFFFEFDFC, 0x80000000, 0, 0, -1), 20);
        due("feed", x.feed(0, 0, 0, 0, 0), 40);
        due("feed", x.feed(0, 0, 0, 0, 0), 60);
        due("row", x.row(), 60);
        due("at", x.at(0), -1);
        due("at", x.at(3), -4);
        due("at", x.at(4), 100);
        due("at", x.at(5), 0);
        due("at", x.at(19), -1);
        for (int i = 1; i <= 5; i++) {
            due("feed", x.feed(1, 1, 1, 1, 1), 20 * i);
        }
        due("feed to 120", x.feed(1, 1, 1, 1, 1), NONE);
        due("count(4)", x.count(4), 100);
        due("end(80)", x.end(80), true);
        due("feed to 100", x.feed(1, 1, 1, 1, 1), 100);
        due("end(81)", x.end(81), true);
        due("feed to 101", x.feed(1, 1, 1, 1, 1), NONE);
        due("count(4)", x.count(4), 81);
    }

    private static void end() {
        about("promise 3");
        MemoryRows x = new MemoryRows();
        due("end(0) of nothing", x.end(0), true);
        due("end(1) of nothing", x.end(1), false);
        x.feed(0x01020304, 0, 0, 0, 0);
        due("end(-1)", x.end(-1), false);
        due("end(MIN)", x.end(Integer.MIN_VALUE), false);
        due("end(21)", x.end(21), false);
        due("count(4)", x.count(4), 20);
        due("end(20)", x.end(20), true);
        due("end(3)", x.end(3), true);
        due("end(4)", x.end(4), false);
        due("count(4)", x.count(4), 3);
        due("feed", x.feed(0x05060708, 0, 0, 0, 0), 23);
        due("row", x.row(), 23);
        due("at(2)", x.at(2), 3);
        due("at(3)", x.at(3), 5);
    }

    private static void rule() {
        about("promise 4");
        MemoryRows x = withRule(0, 2, 1, 2, 20, -8, 8, -1);
        due("count(4)", x.count(4), 0);
        fraction("A1", what -> x.weight(0, 1, true, what), 0, 1);
        fraction("B1", what -> x.weight(0, 1, false, what), 0, 1);
        fraction("B2", what -> x.weight(0, 2, false, what), -1, 2);
        int[][] wrongNumbers = {
            {-1, 2, 1, 0, 3}, {6, 2, 1, 0, 3}, {1, 0, 1, 0, 3}, {1, 5, 1, 0, 3}, {1, 2, -1, 2, 3},
            {1, 2, 4, 0, 3}, {1, 2, 2, -1, 3}, {1, 2, 0, 4, 3}, {1, 2, 1, 0, 0}, {1, 2, 1, 0, 21},
            {1, 2, 0, 0, 3}, {1, 2, 1, 1, 3}, {1, 2, Integer.MAX_VALUE, 1, 3}, {1, 2, Integer.MIN_VALUE, 1, 3},
        };
        for (int[] n : wrongNumbers) {
            int size = n[2] == 4 || n[3] == 4 ? 4 : 1;
            load(x, repeated(1, size));
            due("rule(" + n[0] + ", " + n[1] + ", " + n[2] + ", " + n[3] + ", " + n[4] + ")",
                x.rule(n[0], n[1], n[2], n[3], n[4]), false);
            due("the tape is empty then", x.count(4), 0);
        }
        due("count(0)", x.count(0), 1);
        load(x, 9);
        due("share 9", x.rule(0, 2, 1, 0, 3), false);
        load(x, -9);
        due("share -9", x.rule(0, 2, 1, 0, 3), false);
        load(x, 1, 1, 9);
        due("share 9 of the misses", x.rule(0, 2, 1, 2, 3), false);
        fraction("the slot stays", what -> x.weight(0, 2, false, what), -1, 2);
        x.feed(0x01636363, 0x63636363, 0, 0, 0);
        x.end(1);
        due("bytes behind the end do not count", x.rule(4, 2, 1, 0, 3), true);
        load(x, 8, -8, 8, -8, 8, -8);
        due("the widest rule", x.rule(5, 4, 3, 3, 1), true);
        due("an empty rule", x.rule(5, 1, 0, 0, 1), true);
        fraction("shares of the rule before are gone", what -> x.weight(5, 1, false, what), 0, 1);
        due("count(0)", x.count(0), 3);
    }

    private static int steadyOf(int q, int... shares) {
        return withRule(0, q, shares.length, 0, 1, shares).steady(0);
    }

    private static void steady() {
        about("promise 5");
        due("no share", steadyOf(1), 1);
        due("1/2", steadyOf(2, 1), 1);
        due("1", steadyOf(1, 1), 0);
        due("-1", steadyOf(4, -4), 0);
        due("3/4", steadyOf(4, -3), 1);
        due("5/4", steadyOf(4, 5), 0);
        due("0 share", steadyOf(1, 0), 1);
        due("a root on the circle aside of the line", steadyOf(1, 0, -1), 0);
        due("a root pair on the circle, q 2", steadyOf(2, 2, -2), 0);
        due("3/2 -1/2: root at 1", steadyOf(2, 3, -1), 0);
        due("4/3 -2/3", steadyOf(3, 4, -2), 1);
        due("8/4 -5/4", steadyOf(4, 8, -5), 0);
        due("7/4 -7/8 shape", steadyOf(4, 7, -4), 0);
        due("5/4 1/4", steadyOf(4, 2, 1), 1);
        due("sum is 1", steadyOf(4, 1, 1, 2), 0);
        due("sum below 1", steadyOf(4, 1, 1, 1), 1);
        due("third 1", steadyOf(1, 0, 0, 1), 0);
        due("third 1/2", steadyOf(2, 0, 0, 1), 1);
        due("third share 0", steadyOf(3, 4, -2, 0), 1);
        due("three of 4", steadyOf(4, 6, -4, 1), 1);
        due("three of 4, a root pair within", steadyOf(4, 8, -6, 1), 0);
        MemoryRows x = withRule(0, 2, 1, 1, 1, 1, 8);
        due("miss shares do not count", x.steady(0), 1);
        due("no rule", x.steady(1), NONE);
        due("slot -1", x.steady(-1), NONE);
        due("slot 6", x.steady(6), NONE);
    }

    private static int clearOf(int q, int... shares) {
        return withRule(0, q, 0, shares.length, 1, shares).clear(0);
    }

    private static void clear() {
        about("promise 6");
        due("no share", clearOf(1), 1);
        due("1/2", clearOf(2, 1), 1);
        due("2/2", clearOf(2, 2), 0);
        due("-2/2", clearOf(2, -2), 0);
        due("4/2", clearOf(2, 4), 0);
        due("signs are those of the misses", clearOf(4, 5, 2), 1);
        due("the same with signs turned", clearOf(4, -5, -2), 0);
        due("0 1", clearOf(1, 0, 1), 0);
        due("third", clearOf(4, 0, 0, -3), 1);
        due("third of size 1", clearOf(4, 0, 0, -4), 0);
        MemoryRows x = withRule(0, 2, 1, 1, 1, 8, 1);
        due("back shares do not count", x.clear(0), 1);
        due("no rule", x.clear(1), NONE);
        due("slot -1", x.clear(-1), NONE);
        due("slot 6", x.clear(6), NONE);
    }

    private static void weight() {
        about("promise 7");
        MemoryRows x = withRule(0, 2, 1, 1, 1, 1, 1);
        fraction("0 of misses", what -> x.weight(0, 0, false, what), 1, 1);
        fraction("1 of misses", what -> x.weight(0, 1, false, what), 1, 1);
        fraction("8 of misses", what -> x.weight(0, 8, false, what), 1, 128);
        fraction("0 of numbers", what -> x.weight(0, 0, true, what), 1, 1);
        fraction("1 of numbers", what -> x.weight(0, 1, true, what), -1, 1);
        fraction("2 of numbers", what -> x.weight(0, 2, true, what), 1, 2);
        fraction("8 of numbers", what -> x.weight(0, 8, true, what), 1, 128);
        refused("k 9", () -> x.weight(0, 9, false, 0));
        refused("k -1", () -> x.weight(0, -1, true, 0));
        refused("no rule", () -> x.weight(1, 0, true, 0));
        refused("slot -1", () -> x.weight(-1, 0, true, 0));
        refused("slot 6", () -> x.weight(6, 0, true, 0));
        addRule(x, 1, 1, 3, 0, 1, 8, 8, 8);
        fraction("not steady, 1", what -> x.weight(1, 1, false, what), 8, 1);
        fraction("not steady, 2", what -> x.weight(1, 2, false, what), 72, 1);
        fraction("not steady, 3", what -> x.weight(1, 3, false, what), 648, 1);
        fraction("3 of numbers", what -> x.weight(1, 3, true, what), -8, 1);
        fraction("4 of numbers", what -> x.weight(1, 4, true, what), 0, 1);
        addRule(x, 2, 4, 0, 3, 1, 8, 8, 8);
        fraction("not clear, 1", what -> x.weight(2, 1, true, what), -2, 1);
        fraction("not clear, 2", what -> x.weight(2, 2, true, what), 2, 1);
        fraction("3 of misses", what -> x.weight(2, 3, false, what), 2, 1);
        fraction("4 of misses", what -> x.weight(2, 4, false, what), 0, 1);
    }

    private static void like() {
        about("promise 8");
        MemoryRows x = withRule(0, 2, 1, 1, 1, 1, 1);
        fraction("like 0", what -> x.like(0, 0, what), 7, 3);
        fraction("like 1", what -> x.like(0, 1, what), 5, 3);
        fraction("like 8", what -> x.like(0, 8, what), 5, 384);
        refused("k 9", () -> x.like(0, 9, 0));
        refused("k -1", () -> x.like(0, -1, 0));
        refused("no rule", () -> x.like(1, 0, 0));
        refused("slot -1", () -> x.like(-1, 0, 0));
        refused("slot 6", () -> x.like(6, 0, 0));
        addRule(x, 1, 3, 0, 3, 18, 1, 2, 3);
        fraction("misses alone 0", what -> x.like(1, 0, what), 46, 1);
        fraction("misses alone 1", what -> x.like(1, 1, what), 22, 1);
        fraction("misses alone 2", what -> x.like(1, 2, what), 18, 1);
        fraction("misses alone 3", what -> x.like(1, 3, what), 18, 1);
        fraction("misses alone 4", what -> x.like(1, 4, what), 0, 1);
        addRule(x, 1, 1, 0, 2, 2, 3, -1);
        fraction("q 1, misses alone 0", what -> x.like(1, 0, what), 22, 1);
        fraction("q 1, misses alone 1", what -> x.like(1, 1, what), 0, 1);
        fraction("q 1, misses alone 2", what -> x.like(1, 2, what), -2, 1);
        addRule(x, 1, 3, 2, 0, 1, 4, -2);
        fraction("two back 0", what -> x.like(1, 0, what), 5, 1);
        fraction("two back 1", what -> x.like(1, 1, what), 4, 1);
        fraction("two back 2", what -> x.like(1, 2, what), 2, 1);
        addRule(x, 2, 1, 1, 0, 1, 1);
        refused("not steady", () -> x.like(2, 0, 0));
        addRule(x, 3, 4, 1, 0, 7, -3);
        fraction("turned 1", what -> x.like(3, 1, what), -12, 1);
        fraction("turned 8", what -> x.like(3, 8, what), 6561, 4096);
    }

    private static void same() {
        about("promise 9");
        MemoryRows x = withRule(0, 2, 0, 1, 4, 1);
        addRule(x, 1, 2, 0, 1, 1, 4);
        due("turned roots", x.same(0, 1), 1);
        due("and back", x.same(1, 0), 1);
        due("itself", x.same(1, 1), 1);
        addRule(x, 2, 2, 0, 1, 4, -1);
        due("like 0 alone", x.same(0, 2), 0);
        addRule(x, 3, 2, 0, 1, 5, 1);
        due("another spread", x.same(0, 3), 0);
        addRule(x, 3, 4, 1, 1, 7, 3, -3);
        addRule(x, 4, 1, 0, 0, 7);
        due("shares that undo one another", x.same(3, 4), 1);
        addRule(x, 5, 1, 1, 0, 1, 1);
        due("not steady first", x.same(5, 0), NONE);
        due("not steady second", x.same(0, 5), NONE);
        due("not steady both", x.same(5, 5), NONE);
        addRule(x, 5, 3, 0, 0, 8);
        due("another like 0, the others 0", x.same(4, 5), 0);
        MemoryRows y = withRule(0, 1, 0, 0, 1);
        due("one is none", y.same(0, 1), NONE);
        due("one is none", y.same(1, 0), NONE);
        due("slot 6", y.same(0, 6), NONE);
        due("slot -1", y.same(-1, 0), NONE);
    }

    private static void given() {
        about("promise 10");
        MemoryRows x = withLikenesses(1000, -1000, 999, -300, 1000);
        due("the tape is empty then", x.count(4), 0);
        due("likeness(0, 0)", x.likeness(0, 0), 1000);
        due("likeness(0, 1)", x.likeness(0, 1), -1000);
        due("likeness(0, 3)", x.likeness(0, 3), -300);
        due("likeness(0, 4)", x.likeness(0, 4), 1000);
        due("R0 1001", give(x, 0, 1001), false);
        due("the tape is empty then too", x.count(4), 0);
        due("R0 0", give(x, 0, 0), false);
        due("R0 -1", give(x, 0, -1), false);
        due("R1 above R0", give(x, 0, 4, 5), false);
        due("R1 below -R0", give(x, 0, 4, -5), false);
        due("R4 above R0", give(x, 0, 4, 1, 1, 1, 5), false);
        due("six", give(x, 0, 4, 1, 1, 1, 1, 1), false);
        due("none", give(x, 0), false);
        load(x, 0, 4, 0);
        due("half a pair", x.given(0), false);
        due("the tape is empty then too", x.count(4), 0);
        due("slot -1", give(x, -1, 4), false);
        due("the tape is empty then too", x.count(4), 0);
        due("slot 6", give(x, 6, 4), false);
        load(x, repeated(1, 100));
        due("fifty", x.given(0), false);
        due("the slot stays", x.likeness(0, 4), 1000);
        due("count(1)", x.count(1), 1);
        due("R1 is R0", give(x, 5, 4, 4), true);
        due("R0 1", give(x, 5, 1), true);
        refused("those before are gone", () -> x.likeness(5, 1));
    }

    private static void counted() {
        about("promise 11");
        MemoryRows x = withRow(1, 2, 3, 4);
        due("counted", x.counted(0, 4), true);
        int[] want = {30, 20, 11, 4, 0};
        for (int k = 0; k <= 4; k++) {
            due("likeness " + k, x.likeness(0, k), want[k]);
        }
        refused("no fifth", () -> x.likeness(0, 5));
        due("n -1", x.counted(0, -1), false);
        due("n 5", x.counted(0, 5), false);
        due("slot -1", x.counted(-1, 0), false);
        due("slot 6", x.counted(6, 0), false);
        due("n 0", x.counted(1, 0), true);
        refused("only R0", () -> x.likeness(1, 1));
        setRow(x, 1, GAP, 3);
        due("a gap", x.counted(0, 0), false);
        setRow(x, 0, 0);
        due("R0 0", x.counted(0, 0), false);
        setRow(x);
        due("an empty row", x.counted(0, 0), false);
        setRow(x, 20, 20, -10, 10, 1);
        due("R0 1001", x.counted(0, 0), false);
        due("the slot stays", x.likeness(0, 0), 30);
        setRow(x, 20, -20, 10, 10);
        due("R0 1000", x.counted(0, 2), true);
        due("R1", x.likeness(0, 1), -500);
        due("R2", x.likeness(0, 2), 0);
        setRow(x, -3);
        due("a row of one", x.counted(0, 4), true);
        due("R4", x.likeness(0, 4), 0);
    }

    private static void joined() {
        about("promise 12");
        MemoryRows x = withLikenesses(4, 2, 1);
        due("given", give(x, 1, 5, -3, 1, 2, 2), true);
        due("joined", x.joined(2, 0, 1), true);
        due("R0", x.likeness(2, 0), 9);
        due("R1", x.likeness(2, 1), -1);
        due("R2", x.likeness(2, 2), 2);
        refused("as far as both tell", () -> x.likeness(2, 3));
        due("the other way", x.joined(2, 1, 0), true);
        refused("as far as both tell", () -> x.likeness(2, 3));
        due("with itself, into itself", x.joined(1, 1, 1), true);
        due("R0", x.likeness(1, 0), 10);
        due("R1", x.likeness(1, 1), -6);
        due("R4", x.likeness(1, 4), 4);
        due("into the first", x.joined(0, 0, 1), true);
        due("R0", x.likeness(0, 0), 14);
        due("none", x.joined(0, 0, 3), false);
        due("none", x.joined(0, 3, 0), false);
        due("slot 6", x.joined(0, 0, 6), false);
        due("slot -1", x.joined(0, -1, 0), false);
        due("into slot 6", x.joined(6, 0, 0), false);
        due("into slot -1", x.joined(-1, 0, 0), false);
        due("given", give(x, 3, 500), true);
        due("given", give(x, 4, 501), true);
        due("R0 1001", x.joined(0, 3, 4), false);
        due("the slot stays", x.likeness(0, 0), 14);
        due("R0 1000", x.joined(5, 3, 3), true);
        due("R0", x.likeness(5, 0), 1000);
    }

    private static void thin() {
        about("promise 13");
        MemoryRows x = withLikenesses(9, 8, 7, 6, 5);
        due("thin", x.thin(1, 0), true);
        due("R0", x.likeness(1, 0), 9);
        due("R1", x.likeness(1, 1), 7);
        due("R2", x.likeness(1, 2), 5);
        refused("as far as told", () -> x.likeness(1, 3));
        due("given", give(x, 2, 9, 8, 7, 6), true);
        due("thin of four", x.thin(2, 2), true);
        due("R1", x.likeness(2, 1), 7);
        refused("as far as told", () -> x.likeness(2, 2));
        due("given", give(x, 3, 77), true);
        due("thin of two", x.thin(2, 2), true);
        refused("as far as told", () -> x.likeness(2, 1));
        due("thin of one", x.thin(2, 2), true);
        due("R0", x.likeness(2, 0), 9);
        due("none", x.thin(0, 4), false);
        due("slot 6", x.thin(0, 6), false);
        due("slot -1", x.thin(0, -1), false);
        due("into slot 6", x.thin(6, 0), false);
        due("into slot -1", x.thin(-1, 0), false);
        due("the slot stays", x.likeness(0, 4), 5);
    }

    private static void likeness() {
        about("promise 14");
        MemoryRows x = withLikenesses(400, -399, 0);
        due("R0", x.likeness(0, 0), 400);
        due("R1", x.likeness(0, 1), -399);
        due("R2", x.likeness(0, 2), 0);
        refused("R3", () -> x.likeness(0, 3));
        refused("R5", () -> x.likeness(0, 5));
        refused("R-1", () -> x.likeness(0, -1));
        refused("none", () -> x.likeness(1, 0));
        refused("slot 6", () -> x.likeness(6, 0));
        refused("slot -1", () -> x.likeness(-1, 0));
    }

    private static void steps() {
        about("promise 15");
        due("n 0", withLikenesses(7).steps(0), 0);
        due("all", withLikenesses(16, 8, 4, 2, 1).steps(0), 4);
        due("G 0 is 1", withLikenesses(1, 0).steps(0), 1);
        due("G 1 is 0", withLikenesses(3, 3, 3).steps(0), 1);
        due("G 2 is below 0", withLikenesses(2, 1, -2).steps(0), 2);
        due("G 2 is below 0, one more", withLikenesses(2, 1, -2, 0, 0).steps(0), 2);
        due("G 2 is 0", withLikenesses(2, 1, -1, -2, -1).steps(0), 2);
        due("G 3 is below 0", withLikenesses(4, 0, 0, 4, 1).steps(0), 3);
        MemoryRows x = withLikenesses(7);
        due("none", x.steps(1), NONE);
        due("slot 6", x.steps(6), NONE);
        due("slot -1", x.steps(-1), NONE);
    }

    private static void share() {
        about("promise 16");
        MemoryRows x = withLikenesses(4, 2, -1);
        fraction("F1 of 1", what -> x.share(0, 1, 1, what), 1, 2);
        fraction("F1 of 2", what -> x.share(0, 2, 1, what), 5, 6);
        fraction("F2 of 2", what -> x.share(0, 2, 2, what), -2, 3);
        refused("step 0", () -> x.share(0, 0, 1, 0));
        refused("step 0, 0", () -> x.share(0, 0, 0, 0));
        refused("step 3", () -> x.share(0, 3, 1, 0));
        refused("step 5", () -> x.share(0, 5, 5, 0));
        refused("step -1", () -> x.share(0, -1, 1, 0));
        refused("F0", () -> x.share(0, 2, 0, 0));
        refused("F-1", () -> x.share(0, 2, -1, 0));
        refused("F3 of 2", () -> x.share(0, 2, 3, 0));
        refused("none", () -> x.share(1, 1, 1, 0));
        refused("slot 6", () -> x.share(6, 1, 1, 0));
        refused("slot -1", () -> x.share(-1, 1, 1, 0));
        MemoryRows y = withLikenesses(3, 3, 3);
        fraction("a step with G 0", what -> y.share(0, 1, 1, what), 1, 1);
        refused("behind it there is none", () -> y.share(0, 2, 1, 0));
        MemoryRows z = withLikenesses(1000, 0, 0, 0, -1000);
        fraction("F4 of 4", what -> z.share(0, 4, 4, what), -1, 1);
        fraction("F1 of 4", what -> z.share(0, 4, 1, what), 0, 1);
        MemoryRows w = withLikenesses(2, 1, -2, 0);
        refused("behind a G below 0 there is none", () -> w.share(0, 3, 1, 0));
    }

    private static void left() {
        about("promise 17");
        MemoryRows x = withLikenesses(4, 2, -1);
        fraction("G 0", what -> x.left(0, 0, what), 4, 1);
        fraction("G 1", what -> x.left(0, 1, what), 3, 1);
        fraction("G 2", what -> x.left(0, 2, what), 5, 3);
        refused("G 3", () -> x.left(0, 3, 0));
        refused("G -1", () -> x.left(0, -1, 0));
        refused("none", () -> x.left(1, 0, 0));
        refused("slot 6", () -> x.left(6, 0, 0));
        refused("slot -1", () -> x.left(-1, 0, 0));
        MemoryRows y = withLikenesses(3, 3, 3);
        fraction("G 1", what -> y.left(0, 1, what), 0, 1);
        refused("behind a G 0 there is none", () -> y.left(0, 2, 0));
        MemoryRows z = withLikenesses(1000, 0, 0, 0, -1000);
        fraction("G 3", what -> z.left(0, 3, what), 1000, 1);
        fraction("G 4", what -> z.left(0, 4, what), 0, 1);
        MemoryRows w = withLikenesses(2, 1, -2, 0);
        fraction("a G below 0", what -> w.left(0, 2, what), -8, 3);
        refused("behind a G below 0 there is none", () -> w.left(0, 3, 0));
    }

    private static void solid() {
        about("promise 18");
        due("n 0", withLikenesses(7).solid(0), 1);
        due("all above 0", withLikenesses(16, 8, 4, 2, 1).solid(0), 1);
        due("the last G is 0", withLikenesses(3, -3).solid(0), 1);
        due("the last G is 0", withLikenesses(2, 1, -1).solid(0), 1);
        due("a G before the last is 0", withLikenesses(3, 3, 3).solid(0), 0);
        due("the last G is below 0", withLikenesses(2, 1, -2).solid(0), 0);
        due("a G before the last is below 0", withLikenesses(2, 1, -2, 0).solid(0), 0);
        due("n 4, the last G is 0", withLikenesses(1000, 0, 0, 0, 1000).solid(0), 1);
        MemoryRows x = withLikenesses(7);
        due("none", x.solid(1), NONE);
        due("slot 6", x.solid(6), NONE);
        due("slot -1", x.solid(-1), NONE);
    }

    private static void even() {
        about("promise 19");
        due("n 0", withLikenesses(1).even(0), 1);
        due("R1 half", withLikenesses(2, 1).even(0), 1);
        due("R1 minus half", withLikenesses(2, -1).even(0), 1);
        due("R1 above half", withLikenesses(999, 500).even(0), 0);
        due("R1 below minus half", withLikenesses(999, -500).even(0), 0);
        due("R2 half", withLikenesses(2, 0, 1).even(0), 1);
        due("R2 above half", withLikenesses(3, 0, 2).even(0), 0);
        due("R2 minus half", withLikenesses(2, 0, -1).even(0), 1);
        due("R2 below minus half", withLikenesses(3, 0, -2).even(0), 0);
        due("lowest at the end", withLikenesses(3, 2, 1).even(0), 1);
        due("0 at the end", withLikenesses(6, 4, 1).even(0), 1);
        due("0 inside", withLikenesses(9, 4, 4).even(0), 1);
        due("below 0 inside", withLikenesses(8, 4, 4).even(0), 0);
        due("above 0 inside", withLikenesses(9, 4, 2).even(0), 1);
        due("0 just inside", withLikenesses(12, 8, 4).even(0), 1);
        due("0 just inside, turned", withLikenesses(12, -8, 4).even(0), 1);
        due("just below 0 inside", withLikenesses(999, 667, 333).even(0), 0);
        due("below 0 inside, R2 1", withLikenesses(4, 3, 1).even(0), 0);
        due("lowest outside", withLikenesses(8, 5, 1).even(0), 1);
        due("lowest just outside", withLikenesses(26, 17, 4).even(0), 1);
        due("lowest outside, turned", withLikenesses(8, -5, 1).even(0), 1);
        MemoryRows y = withLikenesses(4, 4, 4);
        due("given", give(y, 0, 4, 1), true);
        due("what is not told any more is 0", y.even(0), 1);
        due("given", give(y, 0, 4, 4), true);
        due("given", give(y, 0, 4), true);
        due("what is not told any more is 0", y.even(0), 1);
        MemoryRows x = withLikenesses(4, 0, 0, 0);
        due("n 3", x.even(0), NONE);
        due("n 4", withLikenesses(4, 0, 0, 0, 0).even(0), NONE);
        due("none", x.even(1), NONE);
        due("slot 6", x.even(6), NONE);
        due("slot -1", x.even(-1), NONE);
    }

    private static void row() {
        about("promise 20");
        MemoryRows x = withRow(20, -20, GAP, 0);
        due("the tape is empty then", x.count(4), 0);
        due("at(0)", x.at(0), 20);
        due("at(1)", x.at(1), -20);
        due("at(2)", x.at(2), 100);
        due("at(3)", x.at(3), 0);
        load(x, 1, 21);
        due("21", x.row(), NONE);
        due("the tape is empty then too", x.count(4), 0);
        load(x, -21);
        due("-21", x.row(), NONE);
        load(x, -127);
        due("-127", x.row(), NONE);
        load(x, 100);
        due("100", x.row(), NONE);
        load(x, repeated(1, 61));
        due("61", x.row(), NONE);
        due("the row stays", x.count(2), 4);
        due("the row stays", x.at(0), 20);
        setRow(x, repeated(7, 60));
        due("at(59)", x.at(59), 7);
        setRow(x, 3);
        due("those before are gone", x.at(1), 101);
        x.feed(0x01636363, 0x63636363, 0, 0, 0);
        x.end(1);
        due("bytes behind the end do not count", x.row(), 1);
        due("an empty row", x.row(), 0);
        due("count(2)", x.count(2), 0);
    }

    private static void at() {
        about("promise 21");
        MemoryRows x = withRow(-5, GAP);
        due("at(0)", x.at(0), -5);
        due("at(1)", x.at(1), 100);
        due("at(2)", x.at(2), 101);
        due("at(-1)", x.at(-1), 101);
        due("at(60)", x.at(60), 101);
        due("at(MAX)", x.at(Integer.MAX_VALUE), 101);
    }

    private static void put() {
        about("promise 22");
        MemoryRows x = new MemoryRows();
        due("put(1, 0)", x.put(1, 0), false);
        due("put(0, 20)", x.put(0, 20), true);
        due("put(1, -20)", x.put(1, -20), true);
        due("put(2, 100)", x.put(2, 100), true);
        due("put(0, 21)", x.put(0, 21), false);
        due("put(0, -21)", x.put(0, -21), false);
        due("put(0, 99)", x.put(0, 99), false);
        due("put(0, 101)", x.put(0, 101), false);
        due("put(0, -128)", x.put(0, -128), false);
        due("put(-1, 1)", x.put(-1, 1), false);
        due("put(4, 1)", x.put(4, 1), false);
        due("at(0)", x.at(0), 20);
        due("at(1)", x.at(1), -20);
        due("at(2)", x.at(2), 100);
        due("at(3)", x.at(3), 101);
        due("put(1, 7)", x.put(1, 7), true);
        due("count(2)", x.count(2), 3);
        due("at(1)", x.at(1), 7);
        for (int t = 3; t < 60; t++) {
            due("put", x.put(t, 1), true);
        }
        due("put(60, 1)", x.put(60, 1), false);
        due("put(59, 2)", x.put(59, 2), true);
        due("count(2)", x.count(2), 60);
    }

    private static void next() {
        about("promise 23");
        MemoryRows x = withRow(GAP, 4, 6);
        addRule(x, 0, 2, 2, 0, 1, 3, -1);
        fraction("next 1", what -> x.next(0, 1, what), 7, 1);
        fraction("next 2", what -> x.next(0, 2, what), 15, 2);
        fraction("next 3", what -> x.next(0, 3, what), 31, 4);
        fraction("next 5", what -> x.next(0, 5, what), 127, 16);
        refused("k 0", () -> x.next(0, 0, 0));
        refused("k 6", () -> x.next(0, 6, 0));
        refused("no rule", () -> x.next(1, 1, 0));
        refused("slot 6", () -> x.next(6, 1, 0));
        refused("slot -1", () -> x.next(-1, 1, 0));
        addRule(x, 1, 1, 3, 0, 1, 1, 1, 0);
        refused("a gap among the last three", () -> x.next(1, 1, 0));
        addRule(x, 2, 1, 1, 1, 1, 1, 0);
        refused("it has miss shares", () -> x.next(2, 1, 0));
        addRule(x, 3, 4, 0, 0, 1);
        fraction("no shares", what -> x.next(3, 1, what), 0, 1);
        setRow(x, 5);
        refused("too few places", () -> x.next(0, 1, 0));
        addRule(x, 4, 4, 1, 0, 1, -3);
        fraction("next 1", what -> x.next(4, 1, what), -15, 4);
        fraction("next 5", what -> x.next(4, 5, what), -1215, 1024);
        setRow(x);
        fraction("no shares, an empty row", what -> x.next(3, 5, what), 0, 1);
        refused("an empty row", () -> x.next(4, 1, 0));
        setRow(x, 20, 20, 20);
        addRule(x, 5, 1, 3, 0, 1, 8, 8, 8);
        fraction("far", what -> x.next(5, 5, what), 3014400, 1);
    }

    private static void whole() {
        about("promise 24");
        MemoryRows x = withRow(1, 2, 3, GAP, 5, 6, 7);
        addRule(x, 0, 1, 1, 0, 1, 1);
        addRule(x, 1, 1, 3, 0, 1, 0, 0, 0);
        addRule(x, 2, 1, 0, 0, 1);
        addRule(x, 3, 1, 0, 1, 1, 0);
        addRule(x, 4, 1, 2, 0, 1, 1, 1);
        due("p 1", x.whole(0), 4);
        due("p 3", x.whole(1), 0);
        due("p 0", x.whole(2), 6);
        due("it has miss shares", x.whole(3), NONE);
        due("p 2", x.whole(4), 2);
        due("no rule", x.whole(5), NONE);
        due("slot 6", x.whole(6), NONE);
        due("slot -1", x.whole(-1), NONE);
        setRow(x, 1, 2, 3);
        due("p places", x.whole(1), 0);
        x.put(3, 1);
        due("p + 1 places", x.whole(1), 1);
        setRow(x);
        due("an empty row", x.whole(1), 0);
        due("an empty row, p 0", x.whole(2), 0);
    }

    private static void squares() {
        about("promise 25");
        MemoryRows x = withRow(1, 2, 4, GAP, 5, 7);
        addRule(x, 0, 2, 1, 0, 1, 1);
        addRule(x, 1, 1, 0, 0, 1);
        addRule(x, 2, 1, 1, 1, 1, 1, 0);
        fraction("by halves", what -> x.squares(0, what), 63, 2);
        fraction("p 0", what -> x.squares(1, what), 95, 1);
        refused("it has miss shares", () -> x.squares(2, 0));
        refused("no rule", () -> x.squares(3, 0));
        refused("slot 6", () -> x.squares(6, 0));
        refused("slot -1", () -> x.squares(-1, 0));
        setRow(x, GAP, 1);
        fraction("no whole place", what -> x.squares(0, what), 0, 1);
        setRow(x, repeated(20, 60));
        addRule(x, 3, 4, 3, 0, 1, -8, -8, -8);
        fraction("the most", what -> x.squares(3, what), 57 * 140 * 140, 1);
    }

    private static void fill() {
        about("promise 26");
        MemoryRows x = withRow(1, 2, GAP, 4);
        addRule(x, 0, 1, 1, 0, 1, 2);
        addRule(x, 1, 1, 1, 0, 1, 0);
        addRule(x, 2, 1, 0, 1, 1, 0);
        due("one gap", x.fill(0), 1);
        due("the row stays", x.at(2), 100);
        due("no rule", x.fill(3), NONE);
        due("it has miss shares", x.fill(2), NONE);
        due("slot 6", x.fill(6), NONE);
        due("slot -1", x.fill(-1), NONE);
        setRow(x, 1, 2, 3);
        due("no gap", x.fill(0), 0);
        setRow(x, GAP, GAP, 3, GAP);
        due("three gaps", x.fill(0), 3);
        due("a gap that no miss feels", x.fill(1), 0);
        setRow(x, GAP, GAP, GAP, GAP, 1);
        due("four gaps", x.fill(0), 0);
        setRow(x, GAP, GAP, GAP);
        due("gaps alone", x.fill(0), 0);
        setRow(x, GAP);
        due("not more than p places", x.fill(0), 0);
        due("it has miss shares", x.fill(2), NONE);
    }

    private static void filled() {
        about("promise 27");
        MemoryRows x = withRow(1, 2, GAP, 4);
        addRule(x, 0, 1, 1, 0, 1, 2);
        due("fill", x.fill(0), 1);
        fraction("filled", what -> x.filled(0, what), 12, 5);
        refused("no second gap", () -> x.filled(1, 0));
        refused("gap -1", () -> x.filled(-1, 0));
        due("a fill without a rule", x.fill(5), NONE);
        fraction("the latest above 0 holds", what -> x.filled(0, what), 12, 5);
        addRule(x, 0, 1, 2, 0, 1, 0, 0);
        fraction("another rule does not undo it", what -> x.filled(0, what), 12, 5);
        addRule(x, 1, 2, 1, 0, 1, 1);
        due("fill", x.fill(1), 1);
        fraction("the latest", what -> x.filled(0, what), 12, 5);
        due("a wrong put", x.put(9, 1), false);
        load(x, 99);
        due("a wrong row", x.row(), NONE);
        fraction("the row was not changed", what -> x.filled(0, what), 12, 5);
        due("put", x.put(4, 1), true);
        refused("the row was changed", () -> x.filled(0, 0));
        due("fill", x.fill(1), 1);
        setRow(x, 1, 2, GAP, 4);
        refused("the row was changed", () -> x.filled(0, 0));
        due("fill", x.fill(0), 1);
        fraction("p 2 with shares 0", what -> x.filled(0, what), 0, 1);
        setRow(x, 3, GAP, GAP, GAP, 7);
        addRule(x, 0, 1, 2, 0, 1, 2, -1);
        due("fill", x.fill(0), 3);
        fraction("a straight line", what -> x.filled(0, what), 4, 1);
        fraction("a straight line", what -> x.filled(1, what), 5, 1);
        fraction("a straight line", what -> x.filled(2, what), 6, 1);
        refused("no fourth gap", () -> x.filled(3, 0));
        addRule(x, 2, 1, 3, 0, 1, 0, 0, 0);
        due("a fill that is not told", x.fill(2), 0);
        fraction("the latest above 0 holds", what -> x.filled(1, what), 5, 1);
        setRow(x, GAP, 3, 1);
        addRule(x, 1, 3, 1, 0, 1, 2);
        due("fill", x.fill(1), 1);
        fraction("the first place", what -> x.filled(0, what), 9, 2);
    }

    private static void amiss() {
        about("promise 28");
        MemoryRows x = withRow(1, 2, 3, 4);
        addRule(x, 0, 1, 1, 0, 1, 2);
        addRule(x, 1, 1, 0, 0, 1);
        addRule(x, 2, 1, 1, 1, 1, 1, 0);
        due("p 1", x.amiss(0), 3);
        due("p 0", x.amiss(1), 3);
        due("it has miss shares", x.amiss(2), NONE);
        due("no rule", x.amiss(3), NONE);
        due("slot 6", x.amiss(6), NONE);
        due("slot -1", x.amiss(-1), NONE);
        setRow(x, 1, 2, 4, 8);
        due("nothing amiss: the first", x.amiss(0), 0);
        setRow(x, 0, 5, -5, 5);
        due("of like ones the first", x.amiss(1), 1);
        setRow(x, 0, 1);
        due("a little amiss", x.amiss(1), 1);
        addRule(x, 4, 1, 1, 0, 1, 1);
        setRow(x, 2, 2, 2, 9, 2, 2, 2);
        due("the middle one", x.amiss(4), 3);
        setRow(x, 9, 2, 2, 2);
        due("the first place", x.amiss(4), 0);
        setRow(x, 1, GAP, 2);
        due("a gap", x.amiss(0), NONE);
        setRow(x, 1);
        due("p places", x.amiss(0), NONE);
        due("p + 1 places", x.amiss(1), 0);
        setRow(x);
        due("an empty row", x.amiss(1), NONE);
    }

    private static void lower() {
        about("promise 29");
        MemoryRows x = withRow(1, GAP, 3);
        addRule(x, 0, 1, 1, 0, 1, 2);
        addRule(x, 1, 3, 1, 0, 1, 3);
        due("amiss", x.amiss(0), NONE);
        refused("there was none", () -> x.lower(0));
        setRow(x, 1, 2, 3, 4);
        due("amiss", x.amiss(0), 3);
        fraction("lower", what -> x.lower(what), 4, 1);
        due("amiss", x.amiss(5), NONE);
        setRow(x, 1, GAP);
        due("amiss", x.amiss(0), NONE);
        fraction("the latest that was not NONE", what -> x.lower(what), 4, 1);
        setRow(x, 2, 2, 2, 9, 2, 2, 2);
        fraction("another row does not undo it", what -> x.lower(what), 4, 1);
        due("amiss", x.amiss(1), 3);
        fraction("the latest", what -> x.lower(what), 98, 1);
        setRow(x, 1, 2, 4);
        due("amiss", x.amiss(0), 0);
        fraction("nothing is lower", what -> x.lower(what), 0, 1);
        setRow(x, 1, 0, 1);
        addRule(x, 2, 2, 1, 0, 1, 1);
        due("amiss", x.amiss(2), 2);
        fraction("by halves", what -> x.lower(what), 1, 1);
        setRow(x, 1, -2, 1);
        due("amiss", x.amiss(2), 1);
        fraction("by halves", what -> x.lower(what), 49, 5);
        setRow(x, 8, 1);
        due("amiss", x.amiss(2), 0);
        fraction("a place ahead of the first miss", what -> x.lower(what), 9, 1);
    }

    private static void count() {
        about("promise 30");
        MemoryRows x = withRow(1, GAP, 3, GAP, GAP);
        addRule(x, 0, 1, 1, 0, 1, 2);
        addRule(x, 5, 1, 0, 0, 1);
        due("given", give(x, 3, 4), true);
        x.feed(0, 0, 0, 0, 0);
        x.end(7);
        due("rules", x.count(0), 2);
        due("likenesses", x.count(1), 1);
        due("places", x.count(2), 5);
        due("gaps", x.count(3), 3);
        due("bytes", x.count(4), 7);
        due("count(5)", x.count(5), NONE);
        due("count(-1)", x.count(-1), NONE);
        due("put", x.put(1, 2), true);
        due("gaps", x.count(3), 2);
        due("rule again", withRule(0, 1, 0, 0, 1).count(0), 1);
    }
}
