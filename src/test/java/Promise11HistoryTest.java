/** Promise 11: history answers the records of the last divisions, newest first. */
public final class Promise11HistoryTest {
    private static final int NONE = Units.NONE;
    private static final int[] NO_KIND = {Integer.MIN_VALUE, -4, -2, -1, 4, 5, 8, 256, Integer.MAX_VALUE};
    private static final int[] FAR_PLACES = {Integer.MIN_VALUE, -65536, -16, -1, 16, 17, 65536, Integer.MAX_VALUE};

    public static void main(String[] args) {
        Check.sentence("history(kind, k) changes nothing", Promise11HistoryTest::changesNothing);
        Check.sentence("kind not one of HIST_DIVIDEND, HIST_DIVISOR, HIST_QUOTIENT, HIST_REMAINDER: NONE",
            Promise11HistoryTest::knowsNoOtherKind);
        Check.sentence("k outside 0..count-1: NONE", Promise11HistoryTest::knowsNoOtherPlace);
        Check.sentence("negative k included", Promise11HistoryTest::knowsNoNegativePlace);
        Check.sentence("any k on an empty history included", Promise11HistoryTest::isEmptyAtFirstAndOnceCleared);
        Check.sentence("Conditions in order", Promise11HistoryTest::refusesBothAtOnce);
        Check.sentence("Otherwise the stored field of record k, where 0 is the newest",
            Promise11HistoryTest::answersStored);
        Check.sentence("of that division: one that is running or cancelled leaves no record",
            Promise11HistoryTest::holdsCompletedDivisionsAlone);
        Check.sentence("dividend = quotient*divisor + remainder with 0 <= remainder < divisor",
            Promise11HistoryTest::holdsEdgeDivisions);
        Check.sentence("For every stored record, of divisions by every divisor",
            Promise11HistoryTest::holdsForEveryDivisor);
        Check.end();
    }

    private static void changesNothing() {
        for (State state : State.all()) {
            Aftermath.changesNothing("every history query", state, unit -> {
                for (int kind = -1; kind <= 4; kind++) {
                    for (int k = -1; k <= 17; k++) {
                        unit.history(kind, k);
                    }
                }
            });
        }
    }

    private static void knowsNoOtherKind() {
        for (State state : State.all()) {
            SrtDivider unit = state.make();
            for (int kind : NO_KIND) {
                for (int k = 0; k < Units.CAPACITY; k++) {
                    Check.due("history(" + kind + ", " + k + ") in " + state.name(), unit.history(kind, k), NONE);
                }
            }
        }
    }

    private static void knowsNoOtherPlace() {
        for (int capacity = 1; capacity <= 16; capacity++) {
            for (int past = 0; past <= capacity + 2; past++) {
                SrtDivider unit = Units.filled(capacity, past);
                String state = past + " divisions, capacity " + capacity;
                for (int k = Math.min(past, capacity); k <= 17; k++) {
                    Units.dueNoRecord(state, unit, k);
                }
                for (int k : FAR_PLACES) {
                    Units.dueNoRecord(state, unit, k);
                }
            }
        }
    }

    private static void knowsNoNegativePlace() {
        for (State state : State.all()) {
            SrtDivider unit = state.make();
            for (int k : new int[] {-1, -2, -3, -16, -65536, Integer.MIN_VALUE + 1, Integer.MIN_VALUE}) {
                Units.dueNoRecord(state.name(), unit, k);
            }
        }
    }

    private static void isEmptyAtFirstAndOnceCleared() {
        for (State state : State.all()) {
            SrtDivider unit = state.make();
            if (unit.status(SrtDivider.STATUS_HISTORY_COUNT) == 0) {
                dueNoRecordAtAll(state.name(), unit);
            }
            unit.clearHistory();
            dueNoRecordAtAll(state.name() + ", cleared", unit);
        }
    }

    private static void dueNoRecordAtAll(String state, SrtDivider unit) {
        for (int k = -1; k <= 17; k++) {
            Units.dueNoRecord(state, unit, k);
        }
        for (int k : FAR_PLACES) {
            Units.dueNoRecord(state, unit, k);
        }
    }

    private static void refusesBothAtOnce() {
        for (State state : State.all()) {
            SrtDivider unit = state.make();
            for (int kind : NO_KIND) {
                for (int k : FAR_PLACES) {
                    Check.due("history(" + kind + ", " + k + ") in " + state.name(), unit.history(kind, k), NONE);
                }
            }
        }
    }

    /** In LOADED and ITERATING too, where the unit holds other operands than the newest record. */
    private static void answersStored() {
        for (int past = 1; past <= Units.CAPACITY + 2; past++) {
            SrtDivider unit = Units.filled(past);
            Units.duePast("DONE after " + past, unit, Units.CAPACITY, past, 0);
            unit.load(100, 7);
            Units.duePast("LOADED after " + past, unit, Units.CAPACITY, past, 0);
            unit.start();
            for (int cycle = 1; cycle <= 9; cycle++) {
                unit.step(1);
                Units.duePast("ITERATING after " + past, unit, Units.CAPACITY, past, 0);
            }
            unit.step(1);
            Units.dueRecord("DONE after " + past, unit, 0, 100, 7);
            Units.duePast("DONE after " + past, unit, Units.CAPACITY, past, 1);
        }
    }

    private static void holdsCompletedDivisionsAlone() {
        SrtDivider unit = Units.iterating(1, 9, 2, 9);
        Units.dueNoRecord("after cycle 9", unit, 1);
        unit.cancel();
        Units.dueNoRecord("once cancelled", unit, 1);
        unit.start();
        unit.step(10);
        Units.dueRecord("a second division", unit, 0, 9, 2);
        Units.duePast("a second division", unit, Units.CAPACITY, 1, 1);
    }

    private static void holdsEdgeDivisions() {
        SrtDivider unit = new SrtDivider(16);
        for (int[] operands : Refusals.edgeOperands()) {
            unit.divide(operands[0], operands[1]);
            Units.dueRecord(operands[0] + " / " + operands[1], unit, 0, operands[0], operands[1]);
            dueExactRecords(unit);
        }
    }

    /** Every divisor, so each row of the selection table and each shift, in a history that is full. */
    private static void holdsForEveryDivisor() {
        SrtDivider unit = new SrtDivider(16);
        for (int divisor = 1; divisor <= SrtDivider.MAX_OPERAND; divisor++) {
            int dividend = Units.scattered(divisor);
            unit.load(dividend, divisor);
            unit.start();
            dueExactRecords(unit);
            unit.step(10);
            dueExactRecords(unit);
            Units.dueRecord(dividend + " / " + divisor, unit, 0, dividend, divisor);
        }
    }

    private static void dueExactRecords(SrtDivider unit) {
        for (int k = 0; k < unit.status(SrtDivider.STATUS_HISTORY_COUNT); k++) {
            int divisor = unit.history(SrtDivider.HIST_DIVISOR, k);
            int remainder = unit.history(SrtDivider.HIST_REMAINDER, k);
            Check.due("dividend of the record", unit.history(SrtDivider.HIST_DIVIDEND, k),
                unit.history(SrtDivider.HIST_QUOTIENT, k) * divisor + remainder);
            Check.holds("0 <= remainder < divisor in the record", remainder >= 0 && remainder < divisor);
        }
    }
}
