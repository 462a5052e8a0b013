/** Promise 5: divide is load, start and step(10) in one call, with the refusals of load. */
public final class Promise05DivideTest {
    private static final int[][] REFUSED = {
        {-1, 7}, {65536, 7}, {Integer.MIN_VALUE, 7}, {Integer.MAX_VALUE, 7},
        {100, 0}, {100, -1}, {100, 65536}, {100, Integer.MIN_VALUE}, {100, Integer.MAX_VALUE}, {-1, 0}
    };
    private static final int[][] ACCEPTED = {
        {100, 7}, {0, 1}, {0, 65535}, {65535, 1}, {65535, 65535}, {65534, 65535}, {50000, 3}, {54321, 123}
    };

    public static void main(String[] args) {
        for (SrtDivider unit : Units.ofEveryPhase()) {
            refusesOperandsOutOfRange(unit);
        }
        refusesWhileIterating();
        for (int[] operands : ACCEPTED) {
            equalsLoadStartStep(operands[0], operands[1]);
        }
        givesResultAndTrace();
        Check.end();
    }

    private static void refusesOperandsOutOfRange(SrtDivider unit) {
        long[] before = Snapshot.of(unit);
        for (int[] operands : REFUSED) {
            String call = "divide(" + operands[0] + ", " + operands[1] + ")";
            Check.due(call, unit.divide(operands[0], operands[1]), false);
            Check.unchanged(call, before, unit);
        }
    }

    private static void refusesWhileIterating() {
        for (int cycles = 0; cycles <= 9; cycles++) {
            SrtDivider unit = Units.iterating(50000, 3, cycles);
            long[] before = Snapshot.of(unit);
            Check.due("divide while iterating", unit.divide(100, 7), false);
            Check.unchanged("divide while iterating", before, unit);
            unit.step(10);
            Check.unchanged("the rest of the division", Snapshot.of(Units.done(50000, 3)), unit);
        }
    }

    private static void equalsLoadStartStep(int dividend, int divisor) {
        SrtDivider[] units = {Units.empty(), Units.loaded(9, 2), Units.done(9, 2)};
        SrtDivider[] others = {Units.empty(), Units.loaded(9, 2), Units.done(9, 2)};
        for (int i = 0; i < units.length; i++) {
            others[i].load(dividend, divisor);
            others[i].start();
            others[i].step(10);
            String call = "divide(" + dividend + ", " + divisor + ")";
            Check.due(call, units[i].divide(dividend, divisor), true);
            Check.unchanged(call, Snapshot.of(others[i]), units[i]);
        }
    }

    private static void givesResultAndTrace() {
        SrtDivider unit = Units.empty();
        Check.due("divide(50000, 3)", unit.divide(50000, 3), true);
        Units.dueRegisters("divide(50000, 3)", unit, SrtDivider.PHASE_DONE, 10, 50000, 3, 14, 49152, 4, 16666, 2);
        Units.dueCounts("divide(50000, 3)", unit, 1, 1, 4);
        Units.dueRecord("divide(50000, 3)", unit, 0, 50000, 3, 16666, 2);
        int[] digits = {0, 1, 0, 0, 1, 0, 2, -1, -1};
        for (int j = 1; j <= 9; j++) {
            Check.due("digit " + j + " of 50000 / 3", unit.trace(SrtDivider.TRACE_DIGIT, j), digits[j - 1]);
        }
        Check.due("divide(100, 7)", unit.divide(100, 7), true);
        Units.dueRegisters("divide(100, 7)", unit, SrtDivider.PHASE_DONE, 10, 100, 7, 13, 57344, 6, 14, 2);
        Units.dueCounts("divide(100, 7)", unit, 2, 2, 4);
    }
}
