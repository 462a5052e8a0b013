/** Promise 6: cancel goes back from a running division to the loaded operands. */
public final class Promise06CancelTest {
    public static void main(String[] args) {
        Check.sentence("cancel() in any phase other than PHASE_ITERATING answers false",
            Promise06CancelTest::refusesOutsideIterating);
        Check.sentence("cancel() in any phase other than PHASE_ITERATING changes nothing",
            Promise06CancelTest::changesNothingOutsideIterating);
        Check.sentence("the phase becomes PHASE_LOADED with the same X and V, and the answer is true",
            Promise06CancelTest::goesBackToLoaded);
        Check.sentence("No history record is made and the division count does not change",
            Promise06CancelTest::makesNoRecord);
        Check.sentence("shift, normalised divisor, row, quotient and remainder read NONE, the cycle count reads 0, and"
            + " trace and partial remainder queries answer NONE or NONE_LONG", Promise06CancelTest::hidesDivision);
        Check.sentence("A following start() begins afresh from cycle 0", Promise06CancelTest::startsAfresh);
        Check.sentence("As in any LOADED state", Promise06CancelTest::isLikeLoad);
        Check.end();
    }

    private static void refusesOutsideIterating() {
        for (State state : State.outside(SrtDivider.PHASE_ITERATING)) {
            Check.due("cancel() in " + state.name(), state.make().cancel(), false);
        }
    }

    private static void changesNothingOutsideIterating() {
        for (State state : State.outside(SrtDivider.PHASE_ITERATING)) {
            Aftermath.changesNothing("cancel()", state, SrtDivider::cancel);
        }
    }

    private static void goesBackToLoaded() {
        for (State state : State.in(SrtDivider.PHASE_ITERATING)) {
            SrtDivider unit = state.make();
            String call = "cancel() in " + state.name();
            Check.due(call, unit.cancel(), true);
            Check.due(call + ": phase", unit.status(SrtDivider.STATUS_PHASE), SrtDivider.PHASE_LOADED);
            Check.due(call + ": dividend", unit.status(SrtDivider.STATUS_DIVIDEND), State.DIVIDEND);
            Check.due(call + ": divisor", unit.status(SrtDivider.STATUS_DIVISOR), State.DIVISOR);
            Check.due("a second " + call, unit.cancel(), false);
            Check.due("step(1) after " + call, unit.step(1), 0);
        }
    }

    private static void makesNoRecord() {
        for (int past = 0; past <= Units.CAPACITY + 1; past++) {
            for (int cycles = 0; cycles <= 9; cycles++) {
                SrtDivider unit = cancelled(past, 54321, 123, cycles);
                String state = "cancel() in cycle " + cycles + " after " + past + " divisions";
                Units.dueCounts(state, unit, Math.min(past, Units.CAPACITY), past, Units.CAPACITY);
                Units.duePast(state, unit, Units.CAPACITY, past, 0);
            }
        }
    }

    private static void hidesDivision() {
        for (State state : State.in(SrtDivider.PHASE_ITERATING)) {
            SrtDivider unit = state.make();
            unit.cancel();
            Units.dueLoaded("cancel() in " + state.name(), unit, State.DIVIDEND, State.DIVISOR);
        }
    }

    private static void startsAfresh() {
        for (int cycles = 0; cycles <= 9; cycles++) {
            SrtDivider unit = cancelled(1, 54321, 123, cycles);
            Check.due("start() once cancelled", unit.start(), true);
            Check.unchanged("start() once cancelled", Snapshot.of(Units.iterating(1, 54321, 123, 0)), unit);
            for (int cycle = 1; cycle <= 9; cycle++) {
                Check.due("step(1) once cancelled", unit.step(1), 1);
                Check.unchanged("step(1) once cancelled", Snapshot.of(Units.iterating(1, 54321, 123, cycle)), unit);
            }
            Check.due("the last step(1) once cancelled", unit.step(1), 1);
            Check.unchanged("the last step(1) once cancelled", Snapshot.of(Units.done(1, 54321, 123)), unit);
        }
    }

    /** Whatever is called later, the unit answers as one that was only loaded with the same operands. */
    private static void isLikeLoad() {
        for (int past = 0; past <= Units.CAPACITY + 1; past++) {
            for (int cycles = 0; cycles <= 9; cycles++) {
                for (int[] operands : new int[][] {{54321, 123}, {65535, 1}, {0, 65535}, {65535, 65535}}) {
                    dueLikeLoad(past, cycles, operands[0], operands[1]);
                }
            }
        }
    }

    private static void dueLikeLoad(int past, int cycles, int dividend, int divisor) {
        String name = "cancel() in cycle " + cycles + " of " + dividend + " / " + divisor
            + " after " + past + " divisions";
        Aftermath.areAlike(name, () -> Units.loaded(past, dividend, divisor),
            () -> cancelled(past, dividend, divisor, cycles));
    }

    private static SrtDivider cancelled(int past, int dividend, int divisor, int cycles) {
        SrtDivider unit = Units.iterating(past, dividend, divisor, cycles);
        unit.cancel();
        return unit;
    }
}
