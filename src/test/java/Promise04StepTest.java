/** Promise 4: step performs cycles exactly as told under Terms, at most those that remain. */
public final class Promise04StepTest {
    private static final int[] COUNTS_REFUSED = {0, -1, -10, Integer.MIN_VALUE};
    private static final int[] EDGES = {
        0, 1, 2, 3, 4, 5, 7, 8, 255, 256, 257, 4095, 4096, 21845, 32767, 32768, 32769, 43690, 65533, 65534, 65535
    };

    public static void main(String[] args) {
        refusesInEveryOtherPhase();
        refusesCountsBelowOne();
        performsAtMostWhatRemains();
        recordsEveryCycle();
        correctsNegativeRemainder();
        keepsEarlierCycles();
        endsOnce();
        for (int edge : EDGES) {
            dividesExactly(edge);
        }
        Check.end();
    }

    private static void refusesInEveryOtherPhase() {
        for (SrtDivider unit : Units.ofEveryPhase()) {
            int phase = unit.status(SrtDivider.STATUS_PHASE);
            if (phase != SrtDivider.PHASE_ITERATING) {
                long[] before = Snapshot.of(unit);
                for (int count : new int[] {Integer.MIN_VALUE, -1, 0, 1, 10, Integer.MAX_VALUE}) {
                    Check.due("step(" + count + ") in phase " + phase, unit.step(count), 0);
                    Check.unchanged("step(" + count + ") in phase " + phase, before, unit);
                }
            }
        }
    }

    private static void refusesCountsBelowOne() {
        for (int cycles = 0; cycles <= 9; cycles++) {
            SrtDivider unit = Units.iterating(50000, 3, cycles);
            long[] before = Snapshot.of(unit);
            for (int count : COUNTS_REFUSED) {
                Check.due("step(" + count + ")", unit.step(count), 0);
                Check.unchanged("step(" + count + ")", before, unit);
            }
        }
    }

    private static void performsAtMostWhatRemains() {
        long[] wanted = Snapshot.of(Units.done(54321, 123));
        for (int first = 1; first <= 9; first++) {
            for (int count : new int[] {10 - first, 11 - first, 10, 11, 1000, Integer.MAX_VALUE}) {
                SrtDivider unit = Units.loaded(54321, 123);
                unit.start();
                Check.due("step(" + first + ")", unit.step(first), first);
                Check.due("cycles done", unit.status(SrtDivider.STATUS_CYCLE), first);
                Check.due("phase", unit.status(SrtDivider.STATUS_PHASE), SrtDivider.PHASE_ITERATING);
                Check.due("step(" + count + ") after " + first, unit.step(count), 10 - first);
                Check.unchanged("both steps", wanted, unit);
            }
        }
        SrtDivider unit = Units.loaded(54321, 123);
        unit.start();
        Check.due("step of the greatest count", unit.step(Integer.MAX_VALUE), 10);
        Check.unchanged("step of the greatest count", wanted, unit);
    }

    private static void recordsEveryCycle() {
        SrtDivider unit = Units.loaded(54321, 123);
        unit.start();
        int[] digits = {0, 0, 0, 0, 2, -1, 0, -2, 2};
        int[] estimates = {0, 0, 1, 6, 26, -17, -7, -25, 25};
        int[] quotients = {0, 0, 0, 0, 2, 7, 28, 110, 442};
        long[] partials = {
            111249408L, 444997632L, 1779990528L, 7119962112L, -4537712640L,
            -1642070016L, -6568280064L, 6744440832L, -6039797760L
        };
        for (int j = 1; j <= 9; j++) {
            String state = "54321 / 123, cycle " + j;
            Check.due(state, unit.step(1), 1);
            Check.due(state + ": digit", unit.trace(SrtDivider.TRACE_DIGIT, j), digits[j - 1]);
            Check.due(state + ": estimate", unit.trace(SrtDivider.TRACE_ESTIMATE, j), estimates[j - 1]);
            Check.due(state + ": QP", unit.trace(SrtDivider.TRACE_QP, j), quotients[j - 1]);
            Check.due(state + ": QM", unit.trace(SrtDivider.TRACE_QM, j), quotients[j - 1] - 1);
            Check.due(state + ": P", unit.partialRemainder(j), partials[j - 1]);
            Units.dueRegisters(state, unit, SrtDivider.PHASE_ITERATING, j, 54321, 123, 9, 62976, 7,
                Units.NONE, Units.NONE);
            Units.dueCounts(state, unit, 0, 0, 4);
        }
    }

    private static void correctsNegativeRemainder() {
        dueResult(54321, 123, 9, 62976, 7, 441, 78);
        dueResult(50000, 3, 14, 49152, 4, 16666, 2);
        dueResult(65534, 65535, 0, 65535, 7, 0, 65534);
        dueResult(100, 7, 13, 57344, 6, 14, 2);
        dueResult(65535, 1, 15, 32768, 0, 65535, 0);
        dueResult(0, 65535, 0, 65535, 7, 0, 0);
    }

    private static void dueResult(int dividend, int divisor, int shift, int normDivisor, int row,
            int quotient, int remainder) {
        String state = "step from cycle 9 of " + dividend + " / " + divisor;
        SrtDivider unit = Units.iterating(dividend, divisor, 9);
        Check.due(state, unit.step(1), 1);
        Units.dueRegisters(state, unit, SrtDivider.PHASE_DONE, 10, dividend, divisor,
            shift, normDivisor, row, quotient, remainder);
        Units.dueCounts(state, unit, 1, 1, 4);
        Units.dueRecord(state, unit, 0, dividend, divisor, quotient, remainder);
    }

    private static void keepsEarlierCycles() {
        SrtDivider whole = Units.done(50000, 3);
        SrtDivider unit = Units.iterating(50000, 3, 0);
        for (int cycle = 1; cycle <= 10; cycle++) {
            unit.step(1);
            for (int j = 0; j <= Math.min(cycle, 9); j++) {
                for (int kind = 0; kind <= 3; kind++) {
                    Check.due("trace(" + kind + ", " + j + ") after cycle " + cycle,
                        unit.trace(kind, j), whole.trace(kind, j));
                }
                Check.due("P_" + j + " after cycle " + cycle, unit.partialRemainder(j), whole.partialRemainder(j));
            }
        }
    }

    private static void endsOnce() {
        SrtDivider unit = Units.done(100, 7);
        long[] before = Snapshot.of(unit);
        Check.due("step(1) in DONE", unit.step(1), 0);
        Check.unchanged("step(1) in DONE", before, unit);
    }

    private static void dividesExactly(int edge) {
        SrtDivider unit = new SrtDivider(1);
        for (int other = 0; other <= SrtDivider.MAX_OPERAND; other++) {
            if (other > 0) {
                dueInvariants(unit, edge, other);
            }
            if (edge > 0) {
                dueInvariants(unit, other, edge);
            }
        }
    }

    private static void dueInvariants(SrtDivider unit, int dividend, int divisor) {
        unit.load(dividend, divisor);
        unit.start();
        unit.step(10);
        boolean exact = unit.status(SrtDivider.STATUS_QUOTIENT) == dividend / divisor
            && unit.status(SrtDivider.STATUS_REMAINDER) == dividend % divisor;
        boolean bounded = true;
        for (int j = 0; j <= 9; j++) {
            bounded = bounded && cycleIsSound(unit, j);
        }
        if (!exact || !bounded) {
            Check.holds("exact " + dividend + " / " + divisor + " with bounded cycles", false);
        }
    }

    private static boolean cycleIsSound(SrtDivider unit, int j) {
        long normDivisor = unit.status(SrtDivider.STATUS_NORM_DIVISOR);
        long partial = unit.partialRemainder(j);
        int quotient = unit.trace(SrtDivider.TRACE_QP, j);
        int digit = j == 0 ? 0 : unit.trace(SrtDivider.TRACE_DIGIT, j);
        long meaning = (unit.partialRemainder(0) - (quotient * normDivisor << 2 * (9 - j))) << 2 * j;
        return 3 * Math.abs(partial) <= normDivisor << 19
            && partial == meaning
            && unit.trace(SrtDivider.TRACE_QM, j) == quotient - 1
            && digit >= -2 && digit <= 2;
    }
}
