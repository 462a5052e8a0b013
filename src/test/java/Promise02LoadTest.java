/** Promise 2: load holds operands within range unless a division is running. */
public final class Promise02LoadTest {
    private static final int[][] REFUSED = {
        {-1, 7}, {65536, 7}, {Integer.MIN_VALUE, 7}, {Integer.MAX_VALUE, 7}, {131072, 7},
        {100, 0}, {100, -1}, {100, 65536}, {100, Integer.MIN_VALUE}, {100, Integer.MAX_VALUE}, {100, 131073},
        {-1, 0}, {65536, 65536}
    };
    private static final int[][] ACCEPTED = {
        {0, 1}, {0, 65535}, {65535, 1}, {65535, 65535}, {100, 7}, {1, 32768}
    };

    public static void main(String[] args) {
        for (SrtDivider unit : Units.ofEveryPhase()) {
            refusesOperandsOutOfRange(unit);
        }
        refusesWhileIterating();
        for (int[] operands : ACCEPTED) {
            acceptsInEveryOtherPhase(operands[0], operands[1]);
        }
        keepsHistory();
        hidesEarlierDivision();
        Check.end();
    }

    private static void refusesOperandsOutOfRange(SrtDivider unit) {
        long[] before = Snapshot.of(unit);
        for (int[] operands : REFUSED) {
            String call = "load(" + operands[0] + ", " + operands[1] + ")";
            Check.due(call, unit.load(operands[0], operands[1]), false);
            Check.unchanged(call, before, unit);
        }
    }

    private static void refusesWhileIterating() {
        for (int cycles = 0; cycles <= 9; cycles++) {
            SrtDivider unit = Units.iterating(50000, 3, cycles);
            long[] before = Snapshot.of(unit);
            Check.due("load while iterating", unit.load(100, 7), false);
            Check.unchanged("load while iterating", before, unit);
            unit.step(10);
            Check.unchanged("the rest of the division", Snapshot.of(Units.done(50000, 3)), unit);
        }
    }

    private static void acceptsInEveryOtherPhase(int dividend, int divisor) {
        SrtDivider[] units = {Units.empty(), Units.loaded(9, 2), Units.done(9, 2)};
        for (SrtDivider unit : units) {
            String state = "load(" + dividend + ", " + divisor + ") in phase " + unit.status(SrtDivider.STATUS_PHASE);
            Check.due(state, unit.load(dividend, divisor), true);
            Units.dueRegisters(state, unit, SrtDivider.PHASE_LOADED, 0, dividend, divisor,
                Units.NONE, Units.NONE, Units.NONE, Units.NONE, Units.NONE);
            Units.dueNoTrace(state, unit);
        }
    }

    private static void keepsHistory() {
        SrtDivider unit = Units.done(100, 7);
        unit.divide(9, 2);
        unit.load(5, 5);
        Units.dueCounts("load after two divisions", unit, 2, 2, 4);
        Units.dueRecord("load after two divisions", unit, 0, 9, 2, 4, 1);
        Units.dueRecord("load after two divisions", unit, 1, 100, 7, 14, 2);
    }

    private static void hidesEarlierDivision() {
        SrtDivider unit = Units.done(50000, 3);
        unit.load(100, 7);
        unit.start();
        Check.due("trace(2, 1) right after the next start", unit.trace(SrtDivider.TRACE_QP, 1), Units.NONE);
        Check.due("partialRemainder(1) right after the next start", unit.partialRemainder(1), Units.NONE_LONG);
        Check.due("quotient right after the next start", unit.status(SrtDivider.STATUS_QUOTIENT), Units.NONE);
    }
}
