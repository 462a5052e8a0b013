/** Promise 6: cancel goes back from a running division to the loaded operands. */
public final class Promise06CancelTest {
    public static void main(String[] args) {
        refusesInEveryOtherPhase();
        for (int cycles = 0; cycles <= 9; cycles++) {
            abandons(cycles);
            startsAfresh(cycles);
        }
        Check.end();
    }

    private static void refusesInEveryOtherPhase() {
        for (SrtDivider unit : Units.ofEveryPhase()) {
            int phase = unit.status(SrtDivider.STATUS_PHASE);
            if (phase != SrtDivider.PHASE_ITERATING) {
                long[] before = Snapshot.of(unit);
                Check.due("cancel() in phase " + phase, unit.cancel(), false);
                Check.unchanged("cancel() in phase " + phase, before, unit);
            }
        }
    }

    private static void abandons(int cycles) {
        SrtDivider unit = Units.done(100, 7);
        unit.load(54321, 123);
        unit.start();
        unit.step(cycles);
        String state = "cancel() after cycle " + cycles;
        Check.due(state, unit.cancel(), true);
        Units.dueRegisters(state, unit, SrtDivider.PHASE_LOADED, 0, 54321, 123,
            Units.NONE, Units.NONE, Units.NONE, Units.NONE, Units.NONE);
        Units.dueNoTrace(state, unit);
        Units.dueCounts(state, unit, 1, 1, 4);
        Units.dueRecord(state, unit, 0, 100, 7, 14, 2);
        Check.due("a second cancel()", unit.cancel(), false);
        Check.due("step(1) once cancelled", unit.step(1), 0);
    }

    private static void startsAfresh(int cycles) {
        SrtDivider unit = Units.iterating(54321, 123, cycles);
        unit.cancel();
        Check.due("start() once cancelled", unit.start(), true);
        Check.unchanged("start() once cancelled", Snapshot.of(Units.iterating(54321, 123, 0)), unit);
        Check.due("step(10) once cancelled", unit.step(10), 10);
        Check.unchanged("step(10) once cancelled", Snapshot.of(Units.done(54321, 123)), unit);
    }
}
