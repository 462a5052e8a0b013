/** Units brought into each phase by calls of the public face, for the tests that need one. */
final class Units {
    static final int NONE = SrtDivider.NONE;
    static final long NONE_LONG = SrtDivider.NONE_LONG;

    private Units() {
    }

    static SrtDivider empty() {
        return new SrtDivider(4);
    }

    static SrtDivider loaded(int dividend, int divisor) {
        SrtDivider unit = empty();
        unit.load(dividend, divisor);
        return unit;
    }

    static SrtDivider iterating(int dividend, int divisor, int cycles) {
        SrtDivider unit = loaded(dividend, divisor);
        unit.start();
        unit.step(cycles);
        return unit;
    }

    static SrtDivider done(int dividend, int divisor) {
        SrtDivider unit = empty();
        unit.divide(dividend, divisor);
        return unit;
    }

    /** A division that ended earlier stands in the history of each unit but the empty one. */
    static SrtDivider[] ofEveryPhase() {
        SrtDivider loaded = done(11, 4);
        loaded.load(50000, 3);
        SrtDivider started = done(11, 4);
        started.load(50000, 3);
        started.start();
        SrtDivider iterating = done(11, 4);
        iterating.load(50000, 3);
        iterating.start();
        iterating.step(5);
        SrtDivider done = done(11, 4);
        done.divide(50000, 3);
        return new SrtDivider[] {empty(), loaded, started, iterating, done};
    }

    static void dueRegisters(String state, SrtDivider unit, int... wanted) {
        int[] kinds = {
            SrtDivider.STATUS_PHASE, SrtDivider.STATUS_CYCLE, SrtDivider.STATUS_DIVIDEND, SrtDivider.STATUS_DIVISOR,
            SrtDivider.STATUS_SHIFT, SrtDivider.STATUS_NORM_DIVISOR, SrtDivider.STATUS_ROW,
            SrtDivider.STATUS_QUOTIENT, SrtDivider.STATUS_REMAINDER
        };
        for (int i = 0; i < kinds.length; i++) {
            Check.due(state + ": status(" + kinds[i] + ")", unit.status(kinds[i]), wanted[i]);
        }
    }

    static void dueCounts(String state, SrtDivider unit, int historyCount, int divisions, int capacity) {
        Check.due(state + ": history count", unit.status(SrtDivider.STATUS_HISTORY_COUNT), historyCount);
        Check.due(state + ": divisions", unit.status(SrtDivider.STATUS_DIVISIONS), divisions);
        Check.due(state + ": capacity", unit.status(SrtDivider.STATUS_CAPACITY), capacity);
    }

    static void dueNoTrace(String state, SrtDivider unit) {
        for (int j = -1; j <= 11; j++) {
            for (int kind = 0; kind <= 3; kind++) {
                Check.due(state + ": trace(" + kind + ", " + j + ")", unit.trace(kind, j), NONE);
            }
            Check.due(state + ": partialRemainder(" + j + ")", unit.partialRemainder(j), NONE_LONG);
        }
    }

    static void dueRecord(String state, SrtDivider unit, int k, int... wanted) {
        for (int kind = 0; kind <= 3; kind++) {
            Check.due(state + ": history(" + kind + ", " + k + ")", unit.history(kind, k), wanted[kind]);
        }
    }
}
