/** Promise 3: start normalises the held operands and performs cycle 0. */
public final class Promise03StartTest {
    public static void main(String[] args) {
        Check.sentence("start() in any phase other than PHASE_LOADED answers false",
            Promise03StartTest::refusesOutsideLoaded);
        Check.sentence("start() in any phase other than PHASE_LOADED changes nothing",
            Promise03StartTest::changesNothingOutsideLoaded);
        Check.sentence("sets the phase to PHASE_ITERATING with 0 cycles done and answers true",
            Promise03StartTest::startsInLoaded);
        Check.sentence("Afterwards QP_0 = 0, QM_0 = -1 and P_0 = N can be read back",
            Promise03StartTest::recordsCycleZero);
        Check.sentence("X, V, the history, the division count and the capacity do not change",
            Promise03StartTest::keepsTheRest);
        Check.end();
    }

    private static void refusesOutsideLoaded() {
        for (State state : State.outside(SrtDivider.PHASE_LOADED)) {
            Check.due("start() in " + state.name(), state.make().start(), false);
        }
    }

    private static void changesNothingOutsideLoaded() {
        for (State state : State.outside(SrtDivider.PHASE_LOADED)) {
            Aftermath.changesNothing("start()", state, SrtDivider::start);
        }
    }

    private static void startsInLoaded() {
        for (State state : State.in(SrtDivider.PHASE_LOADED)) {
            SrtDivider unit = state.make();
            String call = "start() in " + state.name();
            Check.due(call, unit.start(), true);
            Units.dueRegisters(call, unit, SrtDivider.PHASE_ITERATING, 0, State.DIVIDEND, State.DIVISOR,
                8, 61696, 7, Units.NONE, Units.NONE);
        }
    }

    private static void recordsCycleZero() {
        for (int[] operands : Refusals.edgeOperands()) {
            SrtDivider unit = startedWith(operands[0], operands[1]);
            String state = "start of " + operands[0] + " / " + operands[1];
            long shifted = (long) operands[0] << unit.status(SrtDivider.STATUS_SHIFT);
            Check.due(state + ": QP_0", unit.trace(SrtDivider.TRACE_QP, 0), 0);
            Check.due(state + ": QM_0", unit.trace(SrtDivider.TRACE_QM, 0), -1);
            Check.due(state + ": P_0", unit.partialRemainder(0), shifted);
            Check.due(state + ": digit_0", unit.trace(SrtDivider.TRACE_DIGIT, 0), Units.NONE);
            Check.due(state + ": QP_1", unit.trace(SrtDivider.TRACE_QP, 1), Units.NONE);
            Check.due(state + ": P_1", unit.partialRemainder(1), Units.NONE_LONG);
        }
    }

    private static void keepsTheRest() {
        for (int past = 0; past <= Units.CAPACITY + 2; past++) {
            for (int[] operands : Refusals.edgeOperands()) {
                SrtDivider unit = Units.iterating(past, operands[0], operands[1], 0);
                String state = "start after " + past + " divisions";
                Check.due(state + ": dividend", unit.status(SrtDivider.STATUS_DIVIDEND), operands[0]);
                Check.due(state + ": divisor", unit.status(SrtDivider.STATUS_DIVISOR), operands[1]);
                Units.dueCounts(state, unit, Math.min(past, Units.CAPACITY), past, Units.CAPACITY);
                Units.duePast(state, unit, Units.CAPACITY, past, 0);
            }
        }
    }

    private static SrtDivider startedWith(int dividend, int divisor) {
        return Units.iterating(0, dividend, divisor, 0);
    }
}
