/** Promise 2: load holds operands within range unless a division is running. */
public final class Promise02LoadTest {
    public static void main(String[] args) {
        Refusals load = new Refusals("load", SrtDivider::load);
        Check.sentence("phase is ITERATING: answer false", load::whileIterating);
        Check.sentence("dividend outside 0..65535: answer false", load::dividendOutside);
        Check.sentence("divisor outside 1..65535 (0 and negatives included): answer false", load::divisorOutside);
        Check.sentence("considers these conditions in order", load::severalAtOnce);
        Check.sentence("A refused call changes nothing at all", load::changeNothing);
        Check.sentence("Otherwise X = dividend, V = divisor, the phase becomes PHASE_LOADED and the answer is true",
            Promise02LoadTest::holdsEdgeOperands);
        Check.sentence("This is accepted in EMPTY, LOADED and DONE", Promise02LoadTest::acceptsOutsideIterating);
        Check.sentence("Any earlier result or trace is no longer visible", Promise02LoadTest::hidesEarlierDivision);
        Check.sentence("The history, the division count and the capacity are kept", Promise02LoadTest::keepsHistory);
        Check.end();
    }

    private static void holdsEdgeOperands() {
        for (int[] operands : Refusals.edgeOperands()) {
            SrtDivider unit = new SrtDivider(4);
            String call = "load(" + operands[0] + ", " + operands[1] + ")";
            Check.due(call, unit.load(operands[0], operands[1]), true);
            Units.dueLoaded(call, unit, operands[0], operands[1]);
        }
    }

    private static void acceptsOutsideIterating() {
        for (State state : State.outside(SrtDivider.PHASE_ITERATING)) {
            SrtDivider unit = state.make();
            String call = "load(100, 7) in " + state.name();
            Check.due(call, unit.load(100, 7), true);
            Check.due(call + ": phase", unit.status(SrtDivider.STATUS_PHASE), SrtDivider.PHASE_LOADED);
            Check.due(call + ": dividend", unit.status(SrtDivider.STATUS_DIVIDEND), 100);
            Check.due(call + ": divisor", unit.status(SrtDivider.STATUS_DIVISOR), 7);
        }
    }

    private static void hidesEarlierDivision() {
        for (State state : State.outside(SrtDivider.PHASE_ITERATING)) {
            for (int dividend : new int[] {100, State.DIVIDEND}) {
                SrtDivider unit = state.make();
                unit.load(dividend, State.DIVISOR);
                Units.dueLoaded("load in " + state.name(), unit, dividend, State.DIVISOR);
                unit.start();
                Check.due("QP_1 right after the next start", unit.trace(SrtDivider.TRACE_QP, 1), Units.NONE);
                Check.due("P_1 right after the next start", unit.partialRemainder(1), Units.NONE_LONG);
                Check.due("quotient after the next start", unit.status(SrtDivider.STATUS_QUOTIENT), Units.NONE);
                Check.due("remainder after the next start", unit.status(SrtDivider.STATUS_REMAINDER), Units.NONE);
            }
        }
    }

    private static void keepsHistory() {
        for (int past = 0; past <= Units.CAPACITY + 2; past++) {
            SrtDivider unit = Units.loaded(past, 5, 5);
            String state = "load after " + past + " divisions";
            Units.dueCounts(state, unit, Math.min(past, Units.CAPACITY), past, Units.CAPACITY);
            Units.duePast(state, unit, Units.CAPACITY, past, 0);
            Check.due("a second load", unit.load(6, 6), true);
            Units.dueCounts(state, unit, Math.min(past, Units.CAPACITY), past, Units.CAPACITY);
            Units.duePast(state, unit, Units.CAPACITY, past, 0);
        }
    }
}
