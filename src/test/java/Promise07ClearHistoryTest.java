/** Promise 7 and "History" under Terms: clearHistory empties the history and leaves all else. */
public final class Promise07ClearHistoryTest {
    private static final int[] CAPACITIES = {1, 2, 3, 15, 16};

    public static void main(String[] args) {
        Check.sentence("clearHistory() empties the history so that its count is 0",
            Promise07ClearHistoryTest::emptiesHistory);
        Check.sentence("Nothing else changes: the phase, operands, any running or finished division and its trace,"
            + " the division count and the capacity are kept", Promise07ClearHistoryTest::leavesAllElse);
        Check.sentence("any running division is kept, to its end", Promise07ClearHistoryTest::leavesRunningDivision);
        Check.sentence("On an already empty history it has no effect", Promise07ClearHistoryTest::leavesEmptyHistory);
        Check.sentence("A list of at most capacity records, newest first (index 0)",
            Promise07ClearHistoryTest::keepsTheNewest);
        Check.sentence("Pushing when the list holds capacity records first discards the oldest one",
            Promise07ClearHistoryTest::discardsTheOldest);
        Check.sentence("otherwise the list grows by one", Promise07ClearHistoryTest::growsByOne);
        Check.sentence("otherwise the list grows by one, from 0 again once cleared",
            Promise07ClearHistoryTest::growsAgain);
        Check.end();
    }

    private static void emptiesHistory() {
        for (int capacity : CAPACITIES) {
            for (int past = 0; past <= capacity + 2; past++) {
                SrtDivider unit = Units.filled(capacity, past);
                unit.clearHistory();
                String state = "clearHistory() after " + past + " divisions, capacity " + capacity;
                Check.due(state, unit.status(SrtDivider.STATUS_HISTORY_COUNT), 0);
                for (int k = -1; k <= 17; k++) {
                    Units.dueNoRecord(state, unit, k);
                }
            }
        }
    }

    private static void leavesAllElse() {
        for (State state : State.all()) {
            SrtDivider unit = state.make();
            SrtDivider spared = state.make();
            unit.clearHistory();
            String call = "clearHistory() in " + state.name();
            for (int kind = -1; kind <= 12; kind++) {
                int wanted = kind == SrtDivider.STATUS_HISTORY_COUNT ? 0 : spared.status(kind);
                Check.due(call + ": status(" + kind + ")", unit.status(kind), wanted);
            }
            for (int j = -1; j <= 11; j++) {
                for (int kind = 0; kind <= 3; kind++) {
                    Check.due(call + ": trace(" + kind + ", " + j + ")", unit.trace(kind, j), spared.trace(kind, j));
                }
                Check.due(call + ": P_" + j, unit.partialRemainder(j), spared.partialRemainder(j));
            }
        }
    }

    private static void leavesRunningDivision() {
        for (int cycles = 0; cycles <= 9; cycles++) {
            SrtDivider unit = Units.iterating(0, 50000, 3, cycles);
            unit.clearHistory();
            Check.due("step(10) after clearHistory()", unit.step(10), 10 - cycles);
            Check.unchanged("the rest of the division", Snapshot.of(Units.done(0, 50000, 3)), unit);
        }
    }

    private static void leavesEmptyHistory() {
        for (State state : State.all()) {
            if (state.make().status(SrtDivider.STATUS_HISTORY_COUNT) == 0) {
                Aftermath.changesNothing("clearHistory()", state, SrtDivider::clearHistory);
            }
        }
    }

    private static void keepsTheNewest() {
        for (int capacity = 1; capacity <= 16; capacity++) {
            for (int past = 0; past <= 40; past++) {
                SrtDivider unit = Units.filled(capacity, past);
                String state = past + " divisions, capacity " + capacity;
                Units.dueCounts(state, unit, Math.min(past, capacity), past, capacity);
                Units.duePast(state, unit, capacity, past, 0);
            }
        }
    }

    private static void discardsTheOldest() {
        for (int capacity : CAPACITIES) {
            SrtDivider unit = Units.filled(capacity, capacity);
            String state = "a push into " + capacity + " full places";
            Units.dueRecord(state, unit, capacity - 1, Units.pastDividend(1), Units.pastDivisor(1));
            unit.divide(100, 7);
            Check.due(state + ": count", unit.status(SrtDivider.STATUS_HISTORY_COUNT), capacity);
            Units.dueRecord(state, unit, 0, 100, 7);
            for (int k = 1; k < capacity; k++) {
                int i = capacity + 1 - k;
                Units.dueRecord(state, unit, k, Units.pastDividend(i), Units.pastDivisor(i));
            }
            Units.dueNoRecord(state, unit, capacity);
        }
    }

    private static void growsByOne() {
        for (int capacity : CAPACITIES) {
            SrtDivider unit = Units.filled(capacity, capacity - 1);
            String state = "a push into the last of " + capacity + " places";
            Check.due(state + ": count before", unit.status(SrtDivider.STATUS_HISTORY_COUNT), capacity - 1);
            unit.divide(100, 7);
            Check.due(state + ": count after", unit.status(SrtDivider.STATUS_HISTORY_COUNT), capacity);
            Units.dueRecord(state, unit, 0, 100, 7);
            Units.duePast(state, unit, capacity, capacity - 1, 1);
        }
    }

    private static void growsAgain() {
        for (int capacity : CAPACITIES) {
            SrtDivider unit = Units.filled(capacity, capacity + 1);
            unit.clearHistory();
            for (int i = 1; i <= capacity + 2; i++) {
                unit.divide(Units.pastDividend(i), Units.pastDivisor(i));
                String state = "division " + i + " after clearHistory(), capacity " + capacity;
                Units.dueCounts(state, unit, Math.min(i, capacity), capacity + 1 + i, capacity);
                Units.duePast(state, unit, capacity, i, 0);
            }
        }
    }
}
