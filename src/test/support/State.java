import java.util.function.LongSupplier;

/** All that can be asked of an object, written down, so that two objects can be told to be in the same state. */
final class State {
    private final MemoryRows x;
    private final StringBuilder text = new StringBuilder();

    private State(MemoryRows x) {
        this.x = x;
    }

    /** Asking for the tape's bytes uses them up and writes the row, so nothing is to be asked behind this. */
    static String of(MemoryRows x) {
        State state = new State(x);
        for (int what = 0; what <= 4; what++) {
            int one = what;
            state.add("count " + what, () -> x.count(one));
        }
        for (int s = 0; s <= 5; s++) {
            state.addRule(s);
            state.addLikenesses(s);
        }
        state.addRow("row");
        state.addTold();
        state.addTape();
        return state.text.toString();
    }

    private void add(String name, LongSupplier asked) {
        text.append(name).append(": ").append(Bench.said(asked)).append('\n');
    }

    private void addRule(int s) {
        add("steady " + s, () -> x.steady(s));
        add("clear " + s, () -> x.clear(s));
        add("whole " + s, () -> x.whole(s));
        for (int part = 0; part <= 1; part++) {
            int what = part;
            for (int k = 1; k <= 3; k++) {
                int far = k;
                add("weight " + s + " " + k + " of misses", () -> x.weight(s, far, false, what));
                add("weight " + s + " " + k + " of numbers", () -> x.weight(s, far, true, what));
            }
            add("like " + s, () -> x.like(s, 0, what));
        }
    }

    private void addLikenesses(int s) {
        for (int k = 0; k <= 4; k++) {
            int far = k;
            add("likeness " + s + " " + k, () -> x.likeness(s, far));
        }
    }

    private void addRow(String name) {
        int places = x.count(2);
        for (int t = 0; t <= places; t++) {
            int place = t;
            add(name + " " + t, () -> x.at(place));
        }
    }

    private void addTold() {
        for (int part = 0; part <= 1; part++) {
            int what = part;
            for (int g = 0; g <= 2; g++) {
                int gap = g;
                add("filled " + g, () -> x.filled(gap, what));
            }
            add("lower", () -> x.lower(what));
        }
    }

    private void addTape() {
        int bytes = x.count(4);
        // No more than 60 bytes can be had back as a row.
        x.end(Math.min(bytes, 60));
        add("the tape as a row", () -> x.row());
        addRow("tape");
    }
}
