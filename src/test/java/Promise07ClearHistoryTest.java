/** Promise 7: clearHistory empties the history and leaves all else. */
public final class Promise07ClearHistoryTest {
    public static void main(String[] args) {
        for (SrtDivider unit : Units.ofEveryPhase()) {
            emptiesHistoryAlone(unit);
        }
        leavesRunningDivision();
        growsAgain();
        Check.end();
    }

    private static void emptiesHistoryAlone(SrtDivider unit) {
        int phase = unit.status(SrtDivider.STATUS_PHASE);
        String state = "clearHistory() in phase " + phase;
        int divisions = unit.status(SrtDivider.STATUS_DIVISIONS);
        long[] before = readingsBesideHistory(unit);
        unit.clearHistory();
        Units.dueCounts(state, unit, 0, divisions, 4);
        for (int k = -1; k <= 4; k++) {
            Units.dueRecord(state, unit, k, Units.NONE, Units.NONE, Units.NONE, Units.NONE);
        }
        long[] after = readingsBesideHistory(unit);
        for (int i = 0; i < before.length; i++) {
            Check.due(state + ": reading " + i, after[i], before[i]);
        }
        long[] cleared = Snapshot.of(unit);
        unit.clearHistory();
        Check.unchanged("a second clearHistory()", cleared, unit);
    }

    private static long[] readingsBesideHistory(SrtDivider unit) {
        long[] readings = new long[9 + 5 * 10];
        for (int kind = 0; kind <= 8; kind++) {
            readings[kind] = unit.status(kind);
        }
        for (int j = 0; j <= 9; j++) {
            for (int kind = 0; kind <= 3; kind++) {
                readings[9 + 5 * j + kind] = unit.trace(kind, j);
            }
            readings[9 + 5 * j + 4] = unit.partialRemainder(j);
        }
        return readings;
    }

    private static void leavesRunningDivision() {
        for (int cycles = 0; cycles <= 9; cycles++) {
            SrtDivider unit = Units.iterating(50000, 3, cycles);
            unit.clearHistory();
            Check.due("step(10) after clearHistory()", unit.step(10), 10 - cycles);
            Check.unchanged("the rest of the division", Snapshot.of(Units.done(50000, 3)), unit);
        }
    }

    private static void growsAgain() {
        SrtDivider unit = new SrtDivider(2);
        unit.divide(1, 1);
        unit.divide(2, 1);
        unit.divide(3, 1);
        unit.clearHistory();
        unit.divide(100, 7);
        Units.dueCounts("one division after clearHistory()", unit, 1, 4, 2);
        Units.dueRecord("one division after clearHistory()", unit, 0, 100, 7, 14, 2);
        Units.dueRecord("one division after clearHistory()", unit, 1,
            Units.NONE, Units.NONE, Units.NONE, Units.NONE);
    }
}
