import java.util.ArrayList;
import java.util.List;
import java.util.function.Supplier;

/** A way to bring a new unit into one state by calls of the public face, with what its status is then due to be. */
record State(String name, int phase, int cycle, Supplier<SrtDivider> maker) {
    static final int DIVIDEND = 40000;
    static final int DIVISOR = 241;

    private static final int EMPTY = SrtDivider.PHASE_EMPTY;
    private static final int LOADED = SrtDivider.PHASE_LOADED;
    private static final int ITERATING = SrtDivider.PHASE_ITERATING;
    private static final int DONE = SrtDivider.PHASE_DONE;

    SrtDivider make() {
        return maker.get();
    }

    boolean isStarted() {
        return phase == ITERATING || phase == DONE;
    }

    /** Each phase, each number of cycles done, and each fill of the history from empty to full. */
    static List<State> all() {
        List<State> states = new ArrayList<>();
        states.add(new State("EMPTY", EMPTY, 0, () -> Units.filled(0)));
        for (int past = 0; past <= Units.CAPACITY + 1; past++) {
            addAll(states, past);
        }
        return states;
    }

    static List<State> in(int phase) {
        return all().stream().filter(state -> state.phase() == phase).toList();
    }

    static List<State> outside(int phase) {
        return all().stream().filter(state -> state.phase() != phase).toList();
    }

    private static void addAll(List<State> states, int past) {
        String after = " after " + past + " divisions";
        states.add(new State("LOADED" + after, LOADED, 0, () -> Units.loaded(past, DIVIDEND, DIVISOR)));
        states.add(new State("LOADED by cancel" + after, LOADED, 0, () -> cancelled(past)));
        for (int cycles = 0; cycles <= 9; cycles++) {
            int done = cycles;
            states.add(new State("ITERATING, cycle " + cycles + after, ITERATING, cycles,
                () -> Units.iterating(past, DIVIDEND, DIVISOR, done)));
        }
        states.add(new State("DONE" + after, DONE, 10, () -> Units.done(past, DIVIDEND, DIVISOR)));
        states.add(new State("DONE, history cleared" + after, DONE, 10, () -> cleared(past)));
    }

    private static SrtDivider cancelled(int past) {
        SrtDivider unit = Units.iterating(past, DIVIDEND, DIVISOR, 6);
        unit.cancel();
        return unit;
    }

    private static SrtDivider cleared(int past) {
        SrtDivider unit = Units.done(past, DIVIDEND, DIVISOR);
        unit.clearHistory();
        return unit;
    }
}
