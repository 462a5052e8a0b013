/** "History" under Terms: the newest first, the oldest discarded when it is full. */
public final class TermsHistoryTest {
    private static final int[] CAPACITIES = {1, 2, 3, 15, 16};

    public static void main(String[] args) {
        Check.sentence("A list of at most capacity records, newest first (index 0)",
            TermsHistoryTest::keepsTheNewest);
        Check.sentence("Pushing when the list holds capacity records first discards the oldest one",
            TermsHistoryTest::discardsTheOldest);
        Check.sentence("otherwise the list grows by one", TermsHistoryTest::growsByOne);
        Check.sentence("otherwise the list grows by one, from 0 again once cleared",
            TermsHistoryTest::growsAgain);
        Check.end();
    }

    private static void keepsTheNewest() {
        for (int capacity = 1; capacity <= 16; capacity++) {
            for (int past = 0; past <= 40; past++) {
                SrtDivider unit = Units.filled(capacity, past);
                String state = past + " divisions, capacity " + capacity;
                Units.dueCounts(state, unit, Math.min(past, capacity), past, capacity);
                Units.duePast(state, unit, capacity, past, 0);
            }
        }
    }

    private static void discardsTheOldest() {
        for (int capacity : CAPACITIES) {
            SrtDivider unit = Units.filled(capacity, capacity);
            String state = "a push into " + capacity + " full places";
            Units.dueRecord(state, unit, capacity - 1, Units.pastDividend(1), Units.pastDivisor(1));
            unit.divide(100, 7);
            Check.due(state + ": count", unit.status(SrtDivider.STATUS_HISTORY_COUNT), capacity);
            Units.dueRecord(state, unit, 0, 100, 7);
            for (int k = 1; k < capacity; k++) {
                int i = capacity + 1 - k;
                Units.dueRecord(state, unit, k, Units.pastDividend(i), Units.pastDivisor(i));
            }
            Units.dueNoRecord(state, unit, capacity);
        }
    }

    private static void growsByOne() {
        for (int capacity : CAPACITIES) {
            SrtDivider unit = Units.filled(capacity, capacity - 1);
            String state = "a push into the last of " + capacity + " places";
            Check.due(state + ": count before", unit.status(SrtDivider.STATUS_HISTORY_COUNT), capacity - 1);
            unit.divide(100, 7);
            Check.due(state + ": count after", unit.status(SrtDivider.STATUS_HISTORY_COUNT), capacity);
            Units.dueRecord(state, unit, 0, 100, 7);
            Units.duePast(state, unit, capacity, capacity - 1, 1);
        }
    }

    private static void growsAgain() {
        for (int capacity : CAPACITIES) {
            SrtDivider unit = Units.filled(capacity, capacity + 1);
            unit.clearHistory();
            for (int i = 1; i <= capacity + 2; i++) {
                unit.divide(Units.pastDividend(i), Units.pastDivisor(i));
                String state = "division " + i + " after clearHistory(), capacity " + capacity;
                Units.dueCounts(state, unit, Math.min(i, capacity), capacity + 1 + i, capacity);
                Units.duePast(state, unit, capacity, i, 0);
            }
        }
    }
}
