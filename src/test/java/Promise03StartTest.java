/** Promise 3: start normalises the held operands and performs cycle 0. */
public final class Promise03StartTest {
    public static void main(String[] args) {
        Check.sentence("start() in any phase other than PHASE_LOADED answers false",
            Promise03StartTest::refusesOutsideLoaded);
        Check.sentence("start() in any phase other than PHASE_LOADED changes nothing",
            Promise03StartTest::changesNothingOutsideLoaded);
        Check.sentence("sets the phase to PHASE_ITERATING with 0 cycles done and answers true",
            Promise03StartTest::startsInLoaded);
        Check.sentence("s = the least s >= 0 with (V << s) >= 32768 (so 0..15)", Promise03StartTest::findsLeastShift);
        Check.sentence("D = V << s (32768..65535), the normalised divisor", Promise03StartTest::normalisesDivisor);
        Check.sentence("N = X << s, computed as a long (0 .. 2^31 - 1)", Promise03StartTest::shiftsDividend);
        Check.sentence("row = (D >> 12) - 8 (0..7), the selection table row", Promise03StartTest::findsEveryRow);
        Check.sentence("Afterwards QP_0 = 0, QM_0 = -1 and P_0 = N can be read back",
            Promise03StartTest::recordsCycleZero);
        Check.sentence("X, V, the history, the division count and the capacity do not change",
            Promise03StartTest::keepsTheRest);
        Check.end();
    }

    private static void refusesOutsideLoaded() {
        for (State state : State.outside(SrtDivider.PHASE_LOADED)) {
            Check.due("start() in " + state.name(), state.make().start(), false);
        }
    }

    private static void changesNothingOutsideLoaded() {
        for (State state : State.outside(SrtDivider.PHASE_LOADED)) {
            Aftermath.changesNothing("start()", state, SrtDivider::start);
        }
    }

    private static void startsInLoaded() {
        for (State state : State.in(SrtDivider.PHASE_LOADED)) {
            SrtDivider unit = state.make();
            String call = "start() in " + state.name();
            Check.due(call, unit.start(), true);
            Units.dueRegisters(call, unit, SrtDivider.PHASE_ITERATING, 0, State.DIVIDEND, State.DIVISOR,
                8, 61696, 7, Units.NONE, Units.NONE);
        }
    }

    private static void findsLeastShift() {
        dueShift(1, 15);
        for (int shift = 0; shift <= 14; shift++) {
            int least = 32768 >> shift;
            dueShift(least, shift);
            dueShift(least + 1, shift);
            dueShift(2 * least - 1, shift);
            dueShift(least - 1, Integer.numberOfLeadingZeros(least - 1) - 16);
        }
    }

    private static void dueShift(int divisor, int shift) {
        Check.due("shift of " + divisor, startedWith(1, divisor).status(SrtDivider.STATUS_SHIFT), shift);
    }

    private static void normalisesDivisor() {
        SrtDivider unit = new SrtDivider(1);
        for (int divisor = 1; divisor <= SrtDivider.MAX_OPERAND; divisor++) {
            unit.load(1, divisor);
            unit.start();
            int wanted = divisor;
            while (wanted < 32768) {
                wanted += wanted;
            }
            Check.due("D of " + divisor, unit.status(SrtDivider.STATUS_NORM_DIVISOR), wanted);
            unit.cancel();
        }
    }

    private static void shiftsDividend() {
        for (int dividend : new int[] {0, 1, 32767, 32768, 65534, 65535}) {
            for (int shift = 0; shift <= 15; shift++) {
                long wanted = dividend * (1L << shift);
                Check.due("P_0 of " + dividend + " shifted by " + shift,
                    startedWith(dividend, 32768 >> shift).partialRemainder(0), wanted);
            }
        }
        Check.due("the greatest P_0", startedWith(65535, 1).partialRemainder(0), 2147450880L);
        Check.due("the least P_0", startedWith(0, 1).partialRemainder(0), 0L);
    }

    private static void findsEveryRow() {
        for (int row = 0; row <= 7; row++) {
            int least = 32768 + row * 4096;
            int greatest = least + 4095;
            Check.due("row of " + least, startedWith(1, least).status(SrtDivider.STATUS_ROW), row);
            Check.due("row of " + greatest, startedWith(1, greatest).status(SrtDivider.STATUS_ROW), row);
            Check.due("row of " + (8 + row), startedWith(1, 8 + row).status(SrtDivider.STATUS_ROW), row);
        }
        Check.due("row of 1", startedWith(1, 1).status(SrtDivider.STATUS_ROW), 0);
    }

    private static void recordsCycleZero() {
        for (int[] operands : Refusals.edgeOperands()) {
            SrtDivider unit = startedWith(operands[0], operands[1]);
            String state = "start of " + operands[0] + " / " + operands[1];
            long shifted = (long) operands[0] << unit.status(SrtDivider.STATUS_SHIFT);
            Check.due(state + ": QP_0", unit.trace(SrtDivider.TRACE_QP, 0), 0);
            Check.due(state + ": QM_0", unit.trace(SrtDivider.TRACE_QM, 0), -1);
            Check.due(state + ": P_0", unit.partialRemainder(0), shifted);
            Check.due(state + ": digit_0", unit.trace(SrtDivider.TRACE_DIGIT, 0), Units.NONE);
            Check.due(state + ": QP_1", unit.trace(SrtDivider.TRACE_QP, 1), Units.NONE);
            Check.due(state + ": P_1", unit.partialRemainder(1), Units.NONE_LONG);
        }
    }

    private static void keepsTheRest() {
        for (int past = 0; past <= Units.CAPACITY + 2; past++) {
            for (int[] operands : Refusals.edgeOperands()) {
                SrtDivider unit = Units.iterating(past, operands[0], operands[1], 0);
                String state = "start after " + past + " divisions";
                Check.due(state + ": dividend", unit.status(SrtDivider.STATUS_DIVIDEND), operands[0]);
                Check.due(state + ": divisor", unit.status(SrtDivider.STATUS_DIVISOR), operands[1]);
                Units.dueCounts(state, unit, Math.min(past, Units.CAPACITY), past, Units.CAPACITY);
                Units.duePast(state, unit, Units.CAPACITY, past, 0);
            }
        }
    }

    private static SrtDivider startedWith(int dividend, int divisor) {
        return Units.iterating(0, dividend, divisor, 0);
    }
}
