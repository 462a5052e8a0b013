/** Promise 10: partialRemainder answers P_j for the cycles that are done. */
public final class Promise10PartialRemainderTest {
    private static final long NONE_LONG = Units.NONE_LONG;
    private static final int[] FAR_CYCLES = {
        Integer.MIN_VALUE, -65536, -10, -2, 11, 12, 16, 65536, Integer.MAX_VALUE
    };
    // State.DIVIDEND / State.DIVISOR
    private static final long[] WANTED = {
        10240000L, 40960000L, 163840000L, 655360000L, 2621440000L,
        -5687476224L, -6576668672L, 6039797760L, 7985954816L, -402653184L
    };

    public static void main(String[] args) {
        Check.sentence("partialRemainder(j) changes nothing", Promise10PartialRemainderTest::changesNothing);
        Check.sentence("In a phase other than ITERATING and DONE it answers NONE_LONG",
            Promise10PartialRemainderTest::isEmptyUnlessStarted);
        Check.sentence("For j outside 0..min(cyclesDone, 9) it answers NONE_LONG",
            Promise10PartialRemainderTest::knowsNoOtherCycle);
        Check.sentence("Otherwise it answers P_j = S + C as recorded after cycle j",
            Promise10PartialRemainderTest::answersRecorded);
        Check.sentence("with P_0 = N", Promise10PartialRemainderTest::beginsWithDividend);
        Check.end();
    }

    private static void changesNothing() {
        for (State state : State.all()) {
            Aftermath.changesNothing("every partialRemainder query", state, unit -> {
                for (int j = -1; j <= 11; j++) {
                    unit.partialRemainder(j);
                }
            });
        }
    }

    private static void isEmptyUnlessStarted() {
        for (State state : State.all()) {
            if (!state.isStarted()) {
                SrtDivider unit = state.make();
                for (int j = -1; j <= 10; j++) {
                    due(state, unit, j, NONE_LONG);
                }
                dueNoneFarOff(state, unit);
            }
        }
    }

    private static void knowsNoOtherCycle() {
        for (State state : State.all()) {
            if (state.isStarted()) {
                SrtDivider unit = state.make();
                due(state, unit, -1, NONE_LONG);
                for (int j = Math.min(state.cycle(), 9) + 1; j <= 10; j++) {
                    due(state, unit, j, NONE_LONG);
                }
                dueNoneFarOff(state, unit);
            }
        }
    }

    private static void answersRecorded() {
        for (State state : State.all()) {
            if (state.isStarted()) {
                SrtDivider unit = state.make();
                for (int j = 0; j <= Math.min(state.cycle(), 9); j++) {
                    due(state, unit, j, WANTED[j]);
                }
            }
        }
    }

    private static void beginsWithDividend() {
        for (int cycles = 0; cycles <= 10; cycles++) {
            String after = " after cycle " + cycles;
            Check.due("P_0 of 65535 / 1" + after, Units.iterating(0, 65535, 1, cycles).partialRemainder(0), 2147450880L);
            Check.due("P_0 of 0 / 1" + after, Units.iterating(0, 0, 1, cycles).partialRemainder(0), 0L);
            Check.due("P_0 of 65535 / 65535" + after,
                Units.iterating(0, 65535, 65535, cycles).partialRemainder(0), 65535L);
        }
    }

    private static void dueNoneFarOff(State state, SrtDivider unit) {
        for (int j : FAR_CYCLES) {
            due(state, unit, j, NONE_LONG);
        }
    }

    private static void due(State state, SrtDivider unit, int j, long wanted) {
        Check.due("partialRemainder(" + j + ") in " + state.name(), unit.partialRemainder(j), wanted);
    }
}
