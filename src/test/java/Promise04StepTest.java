/** Promise 4: step performs the next cycles, at most those that remain, and what holds of each. */
public final class Promise04StepTest {
    private static final int[] COUNTS_BELOW_ONE = {0, -1, -2, -9, -10, Integer.MIN_VALUE + 1, Integer.MIN_VALUE};
    private static final int[] COUNTS = {1, 2, 9, 10, 11, 12, 65536, Integer.MAX_VALUE - 1, Integer.MAX_VALUE};

    public static void main(String[] args) {
        Check.sentence("phase is not ITERATING: answer 0", Promise04StepTest::refusesOutsideIterating);
        Check.sentence("count < 1 (zero and every negative value): answer 0", Promise04StepTest::refusesBelowOne);
        Check.sentence("considers these conditions in order", Promise04StepTest::refusesBothAtOnce);
        Check.sentence("In both cases nothing changes", Promise04StepTest::changesNothingWhenRefused);
        Check.sentence("n = min(count, 10 - cyclesDone). The answer is n", Promise04StepTest::answersCyclesPerformed);
        Check.sentence("a very large count such as Integer.MAX_VALUE performs only the cycles that remain",
            Promise04StepTest::performsOnlyWhatRemains);
        Check.sentence("The next n cycles are performed one after another", Promise04StepTest::splitsAnyWay);
        Check.sentence("cycles 1..9 are iteration cycles", Promise04StepTest::recordsEveryCycle);
        Check.sentence("cycle 10 is the correction cycle, which ends in PHASE_DONE, pushes one history record and"
            + " raises the division count by one", Promise04StepTest::endsWithCorrection);
        Check.sentence("X, V, s, D, row and the capacity do not change", Promise04StepTest::keepsOperands);
        Check.sentence("values recorded for earlier cycles do not change", Promise04StepTest::keepsEarlierCycles);
        holdsInSweep(new Sweep());
        Check.end();
    }

    private static void holdsInSweep(Sweep sweep) {
        Check.sentence("3*|P_j| <= D*2^19", () -> sweep.dueEverywhere("partial remainder within two thirds"));
        Check.sentence("QM_j = QP_j - 1", () -> sweep.dueEverywhere("QM is QP less one"));
        Check.sentence("for j >= 1 digit_j lies in -2..2", () -> sweep.dueEverywhere("digit within -2..2"));
        Check.sentence("X = q*V + r exactly", () -> {
            sweep.dueEverywhere("X = q*V + r");
            sweep.due("X = q*V + r", "a quotient of 0", "a quotient of 65535");
        });
        Check.sentence("0 <= r < V", () -> {
            sweep.dueEverywhere("0 <= r < V");
            sweep.due("0 <= r < V", "a remainder of 0", "a remainder of V - 1");
        });
    }

    private static void refusesOutsideIterating() {
        for (State state : State.outside(SrtDivider.PHASE_ITERATING)) {
            for (int count : COUNTS) {
                Check.due("step(" + count + ") in " + state.name(), state.make().step(count), 0);
            }
        }
    }

    private static void refusesBelowOne() {
        for (State state : State.in(SrtDivider.PHASE_ITERATING)) {
            for (int count : COUNTS_BELOW_ONE) {
                Check.due("step(" + count + ") in " + state.name(), state.make().step(count), 0);
            }
        }
    }

    private static void refusesBothAtOnce() {
        for (State state : State.outside(SrtDivider.PHASE_ITERATING)) {
            for (int count : COUNTS_BELOW_ONE) {
                Check.due("step(" + count + ") in " + state.name(), state.make().step(count), 0);
            }
        }
    }

    private static void changesNothingWhenRefused() {
        for (State state : State.all()) {
            for (int count : COUNTS_BELOW_ONE) {
                Aftermath.changesNothing("step(" + count + ")", state, unit -> unit.step(count));
            }
        }
        for (State state : State.outside(SrtDivider.PHASE_ITERATING)) {
            for (int count : COUNTS) {
                Aftermath.changesNothing("step(" + count + ")", state, unit -> unit.step(count));
            }
        }
    }

    private static void answersCyclesPerformed() {
        for (State state : State.in(SrtDivider.PHASE_ITERATING)) {
            int left = 10 - state.cycle();
            for (int count = 1; count <= 12; count++) {
                SrtDivider unit = state.make();
                String call = "step(" + count + ") in " + state.name();
                int cycles = Math.min(count, left);
                Check.due(call, unit.step(count), cycles);
                Check.due(call + ": cycles done", unit.status(SrtDivider.STATUS_CYCLE), state.cycle() + cycles);
                Check.due(call + ": phase", unit.status(SrtDivider.STATUS_PHASE),
                    count < left ? SrtDivider.PHASE_ITERATING : SrtDivider.PHASE_DONE);
            }
        }
    }

    private static void performsOnlyWhatRemains() {
        for (State state : State.in(SrtDivider.PHASE_ITERATING)) {
            int left = 10 - state.cycle();
            SrtDivider exact = state.make();
            exact.step(left);
            for (int count : new int[] {left + 1, 11, 1000, 65536, Integer.MAX_VALUE - 1, Integer.MAX_VALUE}) {
                SrtDivider unit = state.make();
                String call = "step(" + count + ") in " + state.name();
                Check.due(call, unit.step(count), left);
                Check.unchanged(call, Snapshot.of(exact), unit);
                Check.due("another " + call, unit.step(count), 0);
                Check.unchanged("another " + call, Snapshot.of(exact), unit);
            }
        }
    }

    /** A set bit of the mask ends a step after that cycle, so every way to split the ten cycles comes up. */
    private static void splitsAnyWay() {
        long[] whole = Snapshot.of(Units.done(1, 54321, 123));
        for (int mask = 0; mask < 512; mask++) {
            SrtDivider unit = Units.iterating(1, 54321, 123, 0);
            int count = 0;
            for (int cycle = 1; cycle <= 10; cycle++) {
                count++;
                if (cycle == 10 || (mask >> cycle - 1 & 1) != 0) {
                    Check.due("step(" + count + ") to cycle " + cycle, unit.step(count), count);
                    count = 0;
                }
            }
            Check.unchanged("ten cycles split by " + mask, whole, unit);
        }
    }

    private static void recordsEveryCycle() {
        SrtDivider unit = Units.iterating(0, 54321, 123, 0);
        int[] digits = {0, 0, 0, 0, 2, -1, 0, -2, 2};
        int[] estimates = {0, 0, 1, 6, 26, -17, -7, -25, 25};
        int[] quotients = {0, 0, 0, 0, 2, 7, 28, 110, 442};
        long[] partials = {
            111249408L, 444997632L, 1779990528L, 7119962112L, -4537712640L,
            -1642070016L, -6568280064L, 6744440832L, -6039797760L
        };
        for (int j = 1; j <= 9; j++) {
            String state = "54321 / 123, cycle " + j;
            Check.due(state, unit.step(1), 1);
            Check.due(state + ": digit", unit.trace(SrtDivider.TRACE_DIGIT, j), digits[j - 1]);
            Check.due(state + ": estimate", unit.trace(SrtDivider.TRACE_ESTIMATE, j), estimates[j - 1]);
            Check.due(state + ": QP", unit.trace(SrtDivider.TRACE_QP, j), quotients[j - 1]);
            Check.due(state + ": QM", unit.trace(SrtDivider.TRACE_QM, j), quotients[j - 1] - 1);
            Check.due(state + ": P", unit.partialRemainder(j), partials[j - 1]);
            Units.dueRegisters(state, unit, SrtDivider.PHASE_ITERATING, j, 54321, 123, 9, 62976, 7,
                Units.NONE, Units.NONE);
            Units.dueCounts(state, unit, 0, 0, Units.CAPACITY);
        }
        Check.due("54321 / 123, cycle 10", unit.step(1), 1);
        Units.dueRegisters("54321 / 123, cycle 10", unit, SrtDivider.PHASE_DONE, 10, 54321, 123, 9, 62976, 7, 441, 78);
    }

    /** With a history that is empty, one short of full, full, and full with one discarded. */
    private static void endsWithCorrection() {
        for (int past = 0; past <= Units.CAPACITY + 1; past++) {
            SrtDivider unit = Units.iterating(past, 50000, 3, 9);
            String state = "50000 / 3 after " + past + " divisions";
            Check.due(state + ": phase", unit.status(SrtDivider.STATUS_PHASE), SrtDivider.PHASE_ITERATING);
            Units.dueCounts(state, unit, Math.min(past, Units.CAPACITY), past, Units.CAPACITY);
            Units.duePast(state, unit, Units.CAPACITY, past, 0);
            Check.due(state + ": step(1)", unit.step(1), 1);
            Units.dueRegisters(state, unit, SrtDivider.PHASE_DONE, 10, 50000, 3, 14, 49152, 4, 16666, 2);
            Units.dueCounts(state, unit, Math.min(past + 1, Units.CAPACITY), past + 1, Units.CAPACITY);
            Units.dueRecord(state, unit, 0, 50000, 3);
            Units.duePast(state, unit, Units.CAPACITY, past, 1);
        }
    }

    private static void keepsOperands() {
        for (int[] operands : Refusals.edgeOperands()) {
            SrtDivider unit = Units.iterating(0, operands[0], operands[1], 0);
            int shift = unit.status(SrtDivider.STATUS_SHIFT);
            int normDivisor = unit.status(SrtDivider.STATUS_NORM_DIVISOR);
            int row = unit.status(SrtDivider.STATUS_ROW);
            for (int cycle = 1; cycle <= 10; cycle++) {
                unit.step(1);
                String state = operands[0] + " / " + operands[1] + ", cycle " + cycle;
                boolean done = cycle == 10;
                Units.dueRegisters(state, unit, done ? SrtDivider.PHASE_DONE : SrtDivider.PHASE_ITERATING, cycle,
                    operands[0], operands[1], shift, normDivisor, row,
                    done ? operands[0] / operands[1] : Units.NONE, done ? operands[0] % operands[1] : Units.NONE);
                Check.due(state + ": capacity", unit.status(SrtDivider.STATUS_CAPACITY), Units.CAPACITY);
            }
        }
    }

    private static void keepsEarlierCycles() {
        for (int[] operands : Refusals.edgeOperands()) {
            SrtDivider whole = Units.done(0, operands[0], operands[1]);
            SrtDivider unit = Units.iterating(0, operands[0], operands[1], 0);
            for (int cycle = 1; cycle <= 10; cycle++) {
                unit.step(1);
                for (int j = 0; j <= Math.min(cycle, 9); j++) {
                    dueSameCycle(j + " after cycle " + cycle, unit, whole, j);
                }
            }
        }
    }

    private static void dueSameCycle(String name, SrtDivider unit, SrtDivider whole, int j) {
        for (int kind = 0; kind <= 3; kind++) {
            Check.due("trace of kind " + kind + " of cycle " + name, unit.trace(kind, j), whole.trace(kind, j));
        }
        Check.due("partial remainder of cycle " + name, unit.partialRemainder(j), whole.partialRemainder(j));
    }
}
