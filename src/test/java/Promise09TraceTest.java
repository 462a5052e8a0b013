/** Promise 9: trace answers the values recorded for the cycles that are done. */
public final class Promise09TraceTest {
    private static final int NONE = Units.NONE;
    // State.DIVIDEND / State.DIVISOR, digits of every value among them.
    private static final int[][] WANTED = {
        {NONE, 0, 0, 0, 0, 1, -1, -2, 1, 2},
        {NONE, 0, 0, 0, 2, 9, -22, -25, 22, 29},
        {0, 0, 0, 0, 0, 1, 3, 10, 41, 166},
        {-1, -1, -1, -1, -1, 0, 2, 9, 40, 165},
    };
    private static final int[] NO_KIND = {Integer.MIN_VALUE, -4, -2, -1, 4, 5, 8, 256, Integer.MAX_VALUE};
    private static final int[] FAR_CYCLES = {Integer.MIN_VALUE, -65536, -10, 11, 16, 65536, Integer.MAX_VALUE};

    public static void main(String[] args) {
        Check.sentence("trace(kind, j) changes nothing", Promise09TraceTest::changesNothing);
        Check.sentence("kind not one of TRACE_DIGIT, TRACE_ESTIMATE, TRACE_QP, TRACE_QM: NONE",
            Promise09TraceTest::knowsNoOtherKind);
        Check.sentence("phase not ITERATING and not DONE: NONE", Promise09TraceTest::isEmptyUnlessStarted);
        Check.sentence("j outside the range for the kind: NONE", Promise09TraceTest::knowsNoOtherCycle);
        Check.sentence("Conditions in order", Promise09TraceTest::refusesSeveralAtOnce);
        Check.sentence("1..c for TRACE_DIGIT and TRACE_ESTIMATE", () -> {
            dueRange(SrtDivider.TRACE_DIGIT, 1);
            dueRange(SrtDivider.TRACE_ESTIMATE, 1);
        });
        Check.sentence("0..c for TRACE_QP and TRACE_QM", () -> {
            dueRange(SrtDivider.TRACE_QP, 0);
            dueRange(SrtDivider.TRACE_QM, 0);
        });
        Check.sentence("Otherwise the answer is the recorded value", Promise09TraceTest::answersRecorded);
        Check.sentence("In DONE, c is 9, so cycle 10 adds no entries", Promise09TraceTest::endsWithNine);
        Check.sentence("Right after start, only j = 0 for TRACE_QP (0) and TRACE_QM (-1) exist",
            Promise09TraceTest::beginsWithCycleZero);
        Check.end();
    }

    private static void changesNothing() {
        for (State state : State.all()) {
            Aftermath.changesNothing("every trace query", state, unit -> {
                for (int kind = -1; kind <= 4; kind++) {
                    for (int j = -1; j <= 11; j++) {
                        unit.trace(kind, j);
                    }
                }
            });
        }
    }

    private static void knowsNoOtherKind() {
        for (State state : State.all()) {
            SrtDivider unit = state.make();
            for (int kind : NO_KIND) {
                for (int j = 0; j <= 9; j++) {
                    due(state, unit, kind, j, NONE);
                }
            }
        }
    }

    private static void isEmptyUnlessStarted() {
        for (State state : State.all()) {
            if (!state.isStarted()) {
                Units.dueNoTrace(state.name(), state.make());
            }
        }
    }

    private static void knowsNoOtherCycle() {
        for (State state : State.all()) {
            SrtDivider unit = state.make();
            int last = Math.min(state.cycle(), 9);
            for (int kind = 0; kind <= 3; kind++) {
                due(state, unit, kind, -1, NONE);
                due(state, unit, kind, last + 1, NONE);
                due(state, unit, kind, 10, NONE);
                for (int j : FAR_CYCLES) {
                    due(state, unit, kind, j, NONE);
                }
            }
        }
    }

    private static void refusesSeveralAtOnce() {
        for (State state : State.all()) {
            SrtDivider unit = state.make();
            for (int kind : NO_KIND) {
                due(state, unit, kind, -1, NONE);
                due(state, unit, kind, 10, NONE);
                for (int j : FAR_CYCLES) {
                    due(state, unit, kind, j, NONE);
                }
            }
        }
    }

    private static void dueRange(int kind, int first) {
        for (State state : State.all()) {
            if (state.isStarted()) {
                SrtDivider unit = state.make();
                int last = Math.min(state.cycle(), 9);
                for (int j = -1; j <= 11; j++) {
                    boolean exists = j >= first && j <= last;
                    Check.due("trace(" + kind + ", " + j + ") exists in " + state.name(),
                        unit.trace(kind, j) != NONE, exists);
                }
            }
        }
    }

    private static void answersRecorded() {
        for (State state : State.all()) {
            if (state.isStarted()) {
                SrtDivider unit = state.make();
                for (int kind = 0; kind <= 3; kind++) {
                    for (int j = 0; j <= Math.min(state.cycle(), 9); j++) {
                        due(state, unit, kind, j, WANTED[kind][j]);
                    }
                }
            }
        }
    }

    private static void endsWithNine() {
        for (State state : State.in(SrtDivider.PHASE_DONE)) {
            SrtDivider unit = state.make();
            for (int kind = 0; kind <= 3; kind++) {
                due(state, unit, kind, 9, WANTED[kind][9]);
                due(state, unit, kind, 10, NONE);
                due(state, unit, kind, 11, NONE);
            }
        }
    }

    private static void beginsWithCycleZero() {
        for (State state : State.in(SrtDivider.PHASE_ITERATING)) {
            if (state.cycle() == 0) {
                SrtDivider unit = state.make();
                due(state, unit, SrtDivider.TRACE_DIGIT, 0, NONE);
                due(state, unit, SrtDivider.TRACE_ESTIMATE, 0, NONE);
                due(state, unit, SrtDivider.TRACE_QP, 0, 0);
                due(state, unit, SrtDivider.TRACE_QM, 0, -1);
                for (int kind = 0; kind <= 3; kind++) {
                    due(state, unit, kind, -1, NONE);
                    due(state, unit, kind, 1, NONE);
                }
            }
        }
    }

    private static void due(State state, SrtDivider unit, int kind, int j, int wanted) {
        Check.due("trace(" + kind + ", " + j + ") in " + state.name(), unit.trace(kind, j), wanted);
    }
}
