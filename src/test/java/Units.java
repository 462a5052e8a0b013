/** Units brought into a state by calls of the public face, and the readings due of them. */
final class Units {
    static final int NONE = SrtDivider.NONE;
    static final long NONE_LONG = SrtDivider.NONE_LONG;
    static final int CAPACITY = 3;

    private Units() {
    }

    /** A new unit that has completed so many divisions, the one of pastDividend(past) the newest. */
    static SrtDivider filled(int past) {
        return filled(CAPACITY, past);
    }

    static SrtDivider filled(int capacity, int past) {
        SrtDivider unit = new SrtDivider(capacity);
        for (int i = 1; i <= past; i++) {
            unit.divide(pastDividend(i), pastDivisor(i));
        }
        return unit;
    }

    static int pastDividend(int i) {
        return 65535 - 1601 * i;
    }

    static int pastDivisor(int i) {
        return 1 + 37 * i;
    }

    /** A dividend for each divisor, spread over the whole range. */
    static int scattered(int divisor) {
        return divisor * 40503 & 65535;
    }

    static SrtDivider loaded(int past, int dividend, int divisor) {
        SrtDivider unit = filled(past);
        unit.load(dividend, divisor);
        return unit;
    }

    static SrtDivider iterating(int past, int dividend, int divisor, int cycles) {
        SrtDivider unit = loaded(past, dividend, divisor);
        unit.start();
        unit.step(cycles);
        return unit;
    }

    static SrtDivider done(int past, int dividend, int divisor) {
        return iterating(past, dividend, divisor, 10);
    }

    /** The statuses from STATUS_PHASE to STATUS_REMAINDER. */
    static void dueRegisters(String state, SrtDivider unit, int... wanted) {
        for (int kind = SrtDivider.STATUS_PHASE; kind <= SrtDivider.STATUS_REMAINDER; kind++) {
            Check.due(state + ": status(" + kind + ")", unit.status(kind), wanted[kind]);
        }
    }

    /** As dueRegisters, for a unit that holds operands and has not started. */
    static void dueLoaded(String state, SrtDivider unit, int dividend, int divisor) {
        dueRegisters(state, unit, SrtDivider.PHASE_LOADED, 0, dividend, divisor, NONE, NONE, NONE, NONE, NONE);
        dueNoTrace(state, unit);
    }

    static void dueCounts(String state, SrtDivider unit, int historyCount, int divisions, int capacity) {
        Check.due(state + ": history count", unit.status(SrtDivider.STATUS_HISTORY_COUNT), historyCount);
        Check.due(state + ": divisions", unit.status(SrtDivider.STATUS_DIVISIONS), divisions);
        Check.due(state + ": capacity", unit.status(SrtDivider.STATUS_CAPACITY), capacity);
    }

    static void dueNoTrace(String state, SrtDivider unit) {
        for (int j = -1; j <= 11; j++) {
            for (int kind = 0; kind <= 3; kind++) {
                Check.due(state + ": trace(" + kind + ", " + j + ")", unit.trace(kind, j), NONE);
            }
            Check.due(state + ": partialRemainder(" + j + ")", unit.partialRemainder(j), NONE_LONG);
        }
    }

    static void dueRecord(String state, SrtDivider unit, int k, int dividend, int divisor) {
        dueFields(state, unit, k, dividend, divisor, dividend / divisor, dividend % divisor);
    }

    static void dueNoRecord(String state, SrtDivider unit, int k) {
        dueFields(state, unit, k, NONE, NONE, NONE, NONE);
    }

    private static void dueFields(String state, SrtDivider unit, int k, int... wanted) {
        for (int kind = 0; kind <= 3; kind++) {
            Check.due(state + ": history(" + kind + ", " + k + ")", unit.history(kind, k), wanted[kind]);
        }
    }

    /** The records left by filled(capacity, past), from place first on, and none beyond them. */
    static void duePast(String state, SrtDivider unit, int capacity, int past, int first) {
        int count = Math.min(first + past, capacity);
        for (int k = first; k < count; k++) {
            int i = past - (k - first);
            dueRecord(state, unit, k, pastDividend(i), pastDivisor(i));
        }
        for (int k : new int[] {Integer.MIN_VALUE, -1, count, count + 1, 15, 16, Integer.MAX_VALUE}) {
            if (k < 0 || k >= count) {
                dueNoRecord(state, unit, k);
            }
        }
    }
}
