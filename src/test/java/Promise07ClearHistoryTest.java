import java.util.List;

/** Promise 7: clearHistory empties the history and leaves all else. */
public final class Promise07ClearHistoryTest {
    private static final int[] CAPACITIES = {1, 2, 3, 15, 16};

    public static void main(String[] args) {
        Check.sentence("clearHistory() empties the history so that its count is 0",
            Promise07ClearHistoryTest::emptiesHistory);
        Check.sentence("Nothing else changes: the phase, operands, any running or finished division and its trace,"
            + " the division count and the capacity are kept", Promise07ClearHistoryTest::leavesAllElse);
        Check.sentence("any running division is kept, to its end", Promise07ClearHistoryTest::leavesRunningDivision);
        Check.sentence("On an already empty history it has no effect", Promise07ClearHistoryTest::leavesEmptyHistory);
        Check.sentence("later calls answer as before, and the history grows from 0 again",
            Promise07ClearHistoryTest::leavesLaterAnswers);
        Check.end();
    }

    private static void emptiesHistory() {
        for (int capacity : CAPACITIES) {
            for (int past = 0; past <= capacity + 2; past++) {
                SrtDivider unit = Units.filled(capacity, past);
                unit.clearHistory();
                String state = "clearHistory() after " + past + " divisions, capacity " + capacity;
                Check.due(state, unit.status(SrtDivider.STATUS_HISTORY_COUNT), 0);
                for (int k = -1; k <= 17; k++) {
                    Units.dueNoRecord(state, unit, k);
                }
            }
        }
    }

    private static void leavesAllElse() {
        for (State state : State.all()) {
            SrtDivider unit = state.make();
            unit.clearHistory();
            dueSameButHistory("clearHistory() in " + state.name(), unit, state.make());
        }
    }

    private static void leavesRunningDivision() {
        for (int cycles = 0; cycles <= 9; cycles++) {
            SrtDivider unit = Units.iterating(0, 50000, 3, cycles);
            unit.clearHistory();
            Check.due("step(10) after clearHistory()", unit.step(10), 10 - cycles);
            Check.unchanged("the rest of the division", Snapshot.of(Units.done(0, 50000, 3)), unit);
        }
    }

    private static void leavesEmptyHistory() {
        for (State state : State.all()) {
            if (state.make().status(SrtDivider.STATUS_HISTORY_COUNT) == 0) {
                Aftermath.changesNothing("clearHistory()", state, SrtDivider::clearHistory);
            }
        }
    }

    private static void leavesLaterAnswers() {
        for (State state : State.all()) {
            for (List<Aftermath.Call> future : Aftermath.futures()) {
                SrtDivider spared = state.make();
                SrtDivider unit = state.make();
                int divisionsBefore = spared.status(SrtDivider.STATUS_DIVISIONS);
                unit.clearHistory();
                for (int i = 0; i < future.size(); i++) {
                    String name = "clearHistory() in " + state.name() + " and " + (i + 1) + " later calls";
                    long due = future.get(i).on(spared);
                    Check.due(name + ", the last of them", future.get(i).on(unit), due);
                    dueSameButHistory(name, unit, spared);
                    dueRecordsSince(name, unit, spared, divisionsBefore);
                }
            }
        }
    }

    /** Of the records of the unit that was spared, those of the divisions completed since. */
    private static void dueRecordsSince(String name, SrtDivider unit, SrtDivider spared, int divisionsBefore) {
        int since = spared.status(SrtDivider.STATUS_DIVISIONS) - divisionsBefore;
        int count = Math.min(since, spared.status(SrtDivider.STATUS_HISTORY_COUNT));
        Check.due(name + ": history count", unit.status(SrtDivider.STATUS_HISTORY_COUNT), count);
        for (int k = -1; k <= 17; k++) {
            for (int kind = 0; kind <= 3; kind++) {
                int wanted = k < count ? spared.history(kind, k) : Units.NONE;
                Check.due(name + ": history(" + kind + ", " + k + ")", unit.history(kind, k), wanted);
            }
        }
    }

    private static void dueSameButHistory(String name, SrtDivider unit, SrtDivider spared) {
        for (int kind = -1; kind <= 12; kind++) {
            if (kind != SrtDivider.STATUS_HISTORY_COUNT) {
                Check.due(name + ": status(" + kind + ")", unit.status(kind), spared.status(kind));
            }
        }
        for (int j = -1; j <= 11; j++) {
            for (int kind = 0; kind <= 3; kind++) {
                Check.due(name + ": trace(" + kind + ", " + j + ")", unit.trace(kind, j), spared.trace(kind, j));
            }
            Check.due(name + ": P_" + j, unit.partialRemainder(j), spared.partialRemainder(j));
        }
    }
}
