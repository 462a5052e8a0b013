import java.util.function.Consumer;

/** "Phases" under Terms: what each phase means, which call leads from which to which, and cyclesDone. */
public final class TermsPhasesTest {
    private static final int EMPTY = SrtDivider.PHASE_EMPTY;
    private static final int LOADED = SrtDivider.PHASE_LOADED;
    private static final int ITERATING = SrtDivider.PHASE_ITERATING;
    private static final int DONE = SrtDivider.PHASE_DONE;

    public static void main(String[] args) {
        Check.sentence("EMPTY: nothing loaded, the fresh state", TermsPhasesTest::isEmptyUntilLoaded);
        Check.sentence("LOADED: operands held, no division running", TermsPhasesTest::holdsWithoutRunning);
        Check.sentence("ITERATING: start done, some of cycles 0..9 done", TermsPhasesTest::runsUpToCycleNine);
        Check.sentence("DONE: cycle 10 done, result present", TermsPhasesTest::hasResultWhenDone);
        Check.sentence("cyclesDone is the number of cycles performed since the last start",
            TermsPhasesTest::countsSinceLastStart);
        Check.sentence("0 right after start, at most 9 while ITERATING, 10 in DONE",
            TermsPhasesTest::countsZeroToTen);
        Check.sentence("each call leads from each phase where its promise says", TermsPhasesTest::movesAsPromised);
        Check.end();
    }

    /** A refused load is no load. */
    private static void isEmptyUntilLoaded() {
        SrtDivider unit = new SrtDivider(Units.CAPACITY);
        SrtDivider fresh = new SrtDivider(Units.CAPACITY);
        unit.start();
        unit.step(10);
        unit.cancel();
        unit.clearHistory();
        unit.load(65536, 1);
        unit.load(0, 0);
        unit.divide(-1, 1);
        unit.divide(1, 65536);
        duePhase("a unit that never loaded", unit, EMPTY);
        Check.unchanged("calls that load nothing", Snapshot.of(fresh), unit);
        unit.load(0, 1);
        duePhase("a unit that loaded", unit, LOADED);
    }

    private static void holdsWithoutRunning() {
        for (State state : State.in(LOADED)) {
            SrtDivider unit = state.make();
            Units.dueLoaded(state.name(), unit, State.DIVIDEND, State.DIVISOR);
            Check.due("step(1) in " + state.name(), unit.step(1), 0);
            Check.due("cancel() in " + state.name(), unit.cancel(), false);
            Check.due("start() in " + state.name(), unit.start(), true);
        }
    }

    private static void runsUpToCycleNine() {
        for (State state : State.in(ITERATING)) {
            SrtDivider unit = state.make();
            int left = 10 - state.cycle();
            Check.due("start() in " + state.name(), unit.start(), false);
            for (int more = 1; more < left; more++) {
                Check.due("step(1) in " + state.name(), unit.step(1), 1);
                duePhase(state.name() + " and " + more + " cycles", unit, ITERATING);
            }
            Check.due("the last step(1) in " + state.name(), unit.step(1), 1);
            duePhase(state.name() + " and " + left + " cycles", unit, DONE);
        }
    }

    private static void hasResultWhenDone() {
        for (State state : State.in(DONE)) {
            SrtDivider unit = state.make();
            Check.due("quotient in " + state.name(), unit.status(SrtDivider.STATUS_QUOTIENT), 165);
            Check.due("remainder in " + state.name(), unit.status(SrtDivider.STATUS_REMAINDER), 235);
            Check.due("step(1) in " + state.name(), unit.step(1), 0);
        }
    }

    /** After a cancelled start and after one that was carried to its end. */
    private static void countsSinceLastStart() {
        for (int earlier = 0; earlier <= 10; earlier++) {
            for (int count = 1; count <= 10; count++) {
                SrtDivider unit = Units.iterating(0, 50000, 3, earlier);
                unit.cancel();
                unit.load(100, 7);
                unit.start();
                dueCycle("the second start", unit, 0);
                unit.step(count);
                dueCycle("step(" + count + ") after the second start", unit, count);
            }
        }
    }

    private static void countsZeroToTen() {
        for (int[] operands : Refusals.edgeOperands()) {
            SrtDivider unit = Units.iterating(0, operands[0], operands[1], 0);
            String name = operands[0] + " / " + operands[1];
            for (int cycle = 0; cycle <= 9; cycle++) {
                duePhase(name, unit, ITERATING);
                dueCycle(name, unit, cycle);
                unit.step(1);
            }
            duePhase(name, unit, DONE);
            dueCycle(name, unit, 10);
        }
    }

    private static void movesAsPromised() {
        for (State state : State.all()) {
            int phase = state.phase();
            boolean running = phase == ITERATING;
            dueMove(state, "load(100, 7)", unit -> unit.load(100, 7), running ? ITERATING : LOADED);
            dueMove(state, "load(100, 0)", unit -> unit.load(100, 0), phase);
            dueMove(state, "start()", SrtDivider::start, phase == LOADED ? ITERATING : phase);
            dueMove(state, "step(0)", unit -> unit.step(0), phase);
            dueMove(state, "step(1)", unit -> unit.step(1), running && state.cycle() == 9 ? DONE : phase);
            dueMove(state, "step(10)", unit -> unit.step(10), running ? DONE : phase);
            dueMove(state, "divide(100, 7)", unit -> unit.divide(100, 7), running ? ITERATING : DONE);
            dueMove(state, "divide(65536, 7)", unit -> unit.divide(65536, 7), phase);
            dueMove(state, "cancel()", SrtDivider::cancel, running ? LOADED : phase);
            dueMove(state, "clearHistory()", SrtDivider::clearHistory, phase);
            dueMove(state, "every query", Snapshot::of, phase);
        }
    }

    private static void dueMove(State state, String call, Consumer<SrtDivider> caller, int phase) {
        SrtDivider unit = state.make();
        caller.accept(unit);
        duePhase(call + " in " + state.name(), unit, phase);
    }

    private static void duePhase(String name, SrtDivider unit, int phase) {
        Check.due(name + ": phase", unit.status(SrtDivider.STATUS_PHASE), phase);
    }

    private static void dueCycle(String name, SrtDivider unit, int cycle) {
        Check.due(name + ": cycle", unit.status(SrtDivider.STATUS_CYCLE), cycle);
    }
}
