/** Promise 8: status answers each kind in each phase, and NONE for any other kind. */
public final class Promise08StatusTest {
    private static final int NONE = Units.NONE;

    public static void main(String[] args) {
        Check.sentence("status(kind) changes nothing", Promise08StatusTest::changesNothing);
        Check.sentence("STATUS_PHASE (0): always the phase", () -> dueInEveryState(0, State::phase));
        Check.sentence("STATUS_CYCLE (1): in ITERATING or DONE the cycles done (0..10); otherwise 0",
            () -> dueInEveryState(1, State::cycle));
        Check.sentence("STATUS_DIVIDEND (2): when not EMPTY, X; in EMPTY, NONE",
            () -> dueInEveryState(2, state -> unlessEmpty(state, State.DIVIDEND)));
        Check.sentence("STATUS_DIVISOR (3): when not EMPTY, V; in EMPTY, NONE",
            () -> dueInEveryState(3, state -> unlessEmpty(state, State.DIVISOR)));
        Check.sentence("STATUS_SHIFT (4): in ITERATING or DONE, s; otherwise NONE",
            () -> dueInEveryState(4, state -> onceStarted(state, 8)));
        Check.sentence("STATUS_NORM_DIVISOR (5): in ITERATING or DONE, D; otherwise NONE",
            () -> dueInEveryState(5, state -> onceStarted(state, 61696)));
        Check.sentence("STATUS_ROW (6): in ITERATING or DONE, row; otherwise NONE",
            () -> dueInEveryState(6, state -> onceStarted(state, 7)));
        Check.sentence("STATUS_QUOTIENT (7): in DONE, the final quotient; otherwise NONE",
            () -> dueInEveryState(7, state -> onceDone(state, 165)));
        Check.sentence("STATUS_REMAINDER (8): in DONE, the final remainder; otherwise NONE",
            () -> dueInEveryState(8, state -> onceDone(state, 235)));
        Check.sentence("STATUS_HISTORY_COUNT (9): always the number of records in the history (0..capacity)",
            Promise08StatusTest::countsRecords);
        Check.sentence("STATUS_DIVISIONS (10): always the number of divisions completed since construction",
            Promise08StatusTest::countsDivisions);
        Check.sentence("STATUS_CAPACITY (11): always the clamped history capacity",
            () -> dueInEveryState(11, state -> Units.CAPACITY));
        Check.sentence("Any other kind, negative or above 11, answers NONE", Promise08StatusTest::knowsNoOtherKind);
        Check.end();
    }

    /** What a status is due to be in a state. */
    private interface Wanted {
        int in(State state);
    }

    private static void dueInEveryState(int kind, Wanted wanted) {
        for (State state : State.all()) {
            Check.due("status(" + kind + ") in " + state.name(), state.make().status(kind), wanted.in(state));
        }
    }

    private static int unlessEmpty(State state, int value) {
        return state.phase() == SrtDivider.PHASE_EMPTY ? NONE : value;
    }

    private static int onceStarted(State state, int value) {
        return state.isStarted() ? value : NONE;
    }

    private static int onceDone(State state, int value) {
        return state.phase() == SrtDivider.PHASE_DONE ? value : NONE;
    }

    private static void changesNothing() {
        for (State state : State.all()) {
            for (int kind = -1; kind <= 12; kind++) {
                int asked = kind;
                Aftermath.changesNothing("status(" + kind + ")", state, unit -> unit.status(asked));
            }
        }
    }

    private static void countsRecords() {
        for (int capacity = 1; capacity <= 16; capacity++) {
            for (int past = 0; past <= 18; past++) {
                SrtDivider unit = Units.filled(capacity, past);
                int count = Math.min(past, capacity);
                dueInEveryPhase(SrtDivider.STATUS_HISTORY_COUNT, unit, count, Math.min(count + 1, capacity));
                unit.clearHistory();
                Check.due("history count once cleared", unit.status(SrtDivider.STATUS_HISTORY_COUNT), 0);
            }
        }
    }

    private static void countsDivisions() {
        for (int past = 0; past <= 40; past++) {
            SrtDivider unit = Units.filled(2, past);
            dueInEveryPhase(SrtDivider.STATUS_DIVISIONS, unit, past, past + 1);
            unit.clearHistory();
            Check.due("divisions once cleared", unit.status(SrtDivider.STATUS_DIVISIONS), past + 1);
        }
    }

    /** The unit is brought through LOADED and ITERATING, a cancel among it, to DONE. */
    private static void dueInEveryPhase(int kind, SrtDivider unit, int before, int after) {
        Check.due("status(" + kind + ") at first", unit.status(kind), before);
        unit.load(100, 7);
        Check.due("status(" + kind + ") once loaded", unit.status(kind), before);
        unit.start();
        unit.cancel();
        Check.due("status(" + kind + ") once cancelled", unit.status(kind), before);
        unit.start();
        Check.due("status(" + kind + ") once started", unit.status(kind), before);
        unit.step(9);
        Check.due("status(" + kind + ") after cycle 9", unit.status(kind), before);
        unit.step(1);
        Check.due("status(" + kind + ") once done", unit.status(kind), after);
    }

    private static void knowsNoOtherKind() {
        for (State state : State.all()) {
            for (int kind : new int[] {Integer.MIN_VALUE, -256, -12, -11, -1, 12, 13, 16, 256, 65536,
                Integer.MAX_VALUE}) {
                Check.due("status(" + kind + ") in " + state.name(), state.make().status(kind), NONE);
            }
        }
    }
}
