/** Promise 5: divide is load, start and step(10) in one call, with the refusals of load. */
public final class Promise05DivideTest {
    public static void main(String[] args) {
        Refusals divide = new Refusals("divide", SrtDivider::divide);
        Check.sentence("phase ITERATING answers false", divide::whileIterating);
        Check.sentence("dividend outside 0..65535 answers false", divide::dividendOutside);
        Check.sentence("divisor outside 1..65535 answers false", divide::divisorOutside);
        Check.sentence("has the same conditions and refusals as load, in their order", divide::severalAtOnce);
        Check.sentence("a refused divide changes nothing", divide::changeNothing);
        Check.sentence("Otherwise it has exactly the effect of load(dividend, divisor), start(), step(10) in that"
            + " order, and answers true", Promise05DivideTest::equalsLoadStartStep);
        Check.sentence("exactly the effect of load, start, step(10), for divisors over the whole range",
            Promise05DivideTest::equalsLoadStartStepForManyDivisors);
        Check.sentence("the phase ends as PHASE_DONE with 10 cycles done", Promise05DivideTest::endsAsDone);
        Check.sentence("the full trace of the division is readable", Promise05DivideTest::leavesFullTrace);
        Check.sentence("one history record is pushed and the division count grows by one",
            Promise05DivideTest::pushesOneRecord);
        Check.end();
    }

    /** In every later answer too, since a register that differs need not show at once. */
    private static void equalsLoadStartStep() {
        for (State state : State.outside(SrtDivider.PHASE_ITERATING)) {
            for (int[] operands : Refusals.edgeOperands()) {
                String call = "divide(" + operands[0] + ", " + operands[1] + ") in " + state.name();
                Aftermath.areAlike(call, () -> inThreeCalls(state.make(), operands[0], operands[1]),
                    () -> inOneCall(state.make(), operands[0], operands[1]));
            }
        }
    }

    private static void equalsLoadStartStepForManyDivisors() {
        SrtDivider unit = new SrtDivider(2);
        SrtDivider other = new SrtDivider(2);
        for (int divisor = 1; divisor <= SrtDivider.MAX_OPERAND; divisor += divisor < 4096 ? 1 : 5) {
            int dividend = Units.scattered(divisor);
            inOneCall(unit, dividend, divisor);
            inThreeCalls(other, dividend, divisor);
            Check.unchanged("divide(" + dividend + ", " + divisor + ")", Snapshot.of(other), unit);
        }
    }

    private static SrtDivider inOneCall(SrtDivider unit, int dividend, int divisor) {
        Check.due("divide(" + dividend + ", " + divisor + ")", unit.divide(dividend, divisor), true);
        return unit;
    }

    private static SrtDivider inThreeCalls(SrtDivider unit, int dividend, int divisor) {
        unit.load(dividend, divisor);
        unit.start();
        unit.step(10);
        return unit;
    }

    private static void endsAsDone() {
        SrtDivider unit = new SrtDivider(4);
        Check.due("divide(50000, 3)", unit.divide(50000, 3), true);
        Units.dueRegisters("divide(50000, 3)", unit, SrtDivider.PHASE_DONE, 10, 50000, 3, 14, 49152, 4, 16666, 2);
        Check.due("divide(100, 7)", unit.divide(100, 7), true);
        Units.dueRegisters("divide(100, 7)", unit, SrtDivider.PHASE_DONE, 10, 100, 7, 13, 57344, 6, 14, 2);
        Check.due("divide(65534, 65535)", unit.divide(65534, 65535), true);
        Units.dueRegisters("divide(65534, 65535)", unit, SrtDivider.PHASE_DONE, 10, 65534, 65535, 0, 65535, 7,
            0, 65534);
    }

    private static void leavesFullTrace() {
        SrtDivider unit = new SrtDivider(4);
        unit.divide(50000, 3);
        int[] digits = {Units.NONE, 0, 1, 0, 0, 1, 0, 2, -1, -1};
        int quotient = 0;
        for (int j = 0; j <= 9; j++) {
            String state = "50000 / 3, cycle " + j;
            quotient = j == 0 ? 0 : 4 * quotient + digits[j];
            Check.due(state + ": digit", unit.trace(SrtDivider.TRACE_DIGIT, j), digits[j]);
            Check.due(state + ": QP", unit.trace(SrtDivider.TRACE_QP, j), quotient);
            Check.due(state + ": QM", unit.trace(SrtDivider.TRACE_QM, j), quotient - 1);
            long partial = (819200000L - ((long) quotient * 49152 << 2 * (9 - j))) << 2 * j;
            Check.due(state + ": P", unit.partialRemainder(j), partial);
            Check.holds(state + ": estimate is there",
                j == 0 || unit.trace(SrtDivider.TRACE_ESTIMATE, j) != Units.NONE);
        }
    }

    /** Into a history that is empty, one short of full, full, and full with one discarded. */
    private static void pushesOneRecord() {
        for (int past = 0; past <= Units.CAPACITY + 1; past++) {
            SrtDivider unit = Units.filled(past);
            unit.divide(50000, 3);
            String state = "divide(50000, 3) after " + past + " divisions";
            Units.dueCounts(state, unit, Math.min(past + 1, Units.CAPACITY), past + 1, Units.CAPACITY);
            Units.dueRecord(state, unit, 0, 50000, 3);
            Units.duePast(state, unit, Units.CAPACITY, past, 1);
        }
    }
}
