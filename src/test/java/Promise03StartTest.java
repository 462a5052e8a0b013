/** Promise 3: start normalises the held operands and performs cycle 0. */
public final class Promise03StartTest {
    public static void main(String[] args) {
        refusesInEveryOtherPhase();
        normalises(100, 7, 13, 57344, 6, 819200L);
        normalises(65535, 1, 15, 32768, 0, 2147450880L);
        normalises(0, 1, 15, 32768, 0, 0L);
        normalises(65535, 65535, 0, 65535, 7, 65535L);
        normalises(65535, 32768, 0, 32768, 0, 65535L);
        normalises(65535, 32767, 1, 65534, 7, 131070L);
        normalises(50000, 3, 14, 49152, 4, 819200000L);
        normalisesEveryDivisor();
        findsEveryRow();
        keepsTheRest();
        Check.end();
    }

    private static void refusesInEveryOtherPhase() {
        for (SrtDivider unit : Units.ofEveryPhase()) {
            int phase = unit.status(SrtDivider.STATUS_PHASE);
            if (phase != SrtDivider.PHASE_LOADED) {
                long[] before = Snapshot.of(unit);
                Check.due("start() in phase " + phase, unit.start(), false);
                Check.unchanged("start() in phase " + phase, before, unit);
            }
        }
    }

    private static void normalises(int dividend, int divisor, int shift, int normDivisor, int row, long first) {
        String state = "start of " + dividend + " / " + divisor;
        SrtDivider unit = Units.loaded(dividend, divisor);
        Check.due(state, unit.start(), true);
        Units.dueRegisters(state, unit, SrtDivider.PHASE_ITERATING, 0, dividend, divisor,
            shift, normDivisor, row, Units.NONE, Units.NONE);
        Check.due(state + ": QP_0", unit.trace(SrtDivider.TRACE_QP, 0), 0);
        Check.due(state + ": QM_0", unit.trace(SrtDivider.TRACE_QM, 0), -1);
        Check.due(state + ": P_0", unit.partialRemainder(0), first);
        Check.due(state + ": digit_1", unit.trace(SrtDivider.TRACE_DIGIT, 1), Units.NONE);
    }

    private static void normalisesEveryDivisor() {
        SrtDivider unit = new SrtDivider(1);
        for (int divisor = 1; divisor <= SrtDivider.MAX_OPERAND; divisor++) {
            unit.load(65535, divisor);
            unit.start();
            int shift = Integer.numberOfLeadingZeros(divisor) - 16;
            String state = "start of 65535 / " + divisor;
            Check.due(state + ": shift", unit.status(SrtDivider.STATUS_SHIFT), shift);
            Check.due(state + ": D", unit.status(SrtDivider.STATUS_NORM_DIVISOR), divisor << shift);
            Check.due(state + ": row", unit.status(SrtDivider.STATUS_ROW), (divisor << shift) / 4096 - 8);
            Check.due(state + ": P_0", unit.partialRemainder(0), 65535L << shift);
            unit.cancel();
        }
    }

    private static void findsEveryRow() {
        for (int row = 0; row <= 7; row++) {
            int least = 32768 + row * 4096;
            Check.due("row of " + least, Units.iterating(1, least, 0).status(SrtDivider.STATUS_ROW), row);
            int greatest = least + 4095;
            Check.due("row of " + greatest, Units.iterating(1, greatest, 0).status(SrtDivider.STATUS_ROW), row);
        }
    }

    private static void keepsTheRest() {
        SrtDivider unit = Units.done(100, 7);
        unit.load(9, 2);
        unit.start();
        Units.dueCounts("start after a division", unit, 1, 1, 4);
        Units.dueRecord("start after a division", unit, 0, 100, 7, 14, 2);
    }
}
