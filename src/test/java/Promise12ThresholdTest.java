/** Promise 12: threshold answers the selection table in every phase. */
public final class Promise12ThresholdTest {
    private static final int NONE = Units.NONE;
    private static final int[] NO_ROW = {Integer.MIN_VALUE, -65536, -8, -2, -1, 8, 9, 16, 65536, Integer.MAX_VALUE};
    private static final int[] NO_DIGIT = {Integer.MIN_VALUE, -65536, -3, -2, 3, 4, 5, 65536, Integer.MAX_VALUE};

    public static void main(String[] args) {
        Check.sentence("threshold(row, digit) changes nothing", Promise12ThresholdTest::changesNothing);
        Check.sentence("works in every phase: the answer is m(row, digit) from the selection table",
            Promise12ThresholdTest::answersTable);
        Check.sentence("row outside 0..7 answers NONE", Promise12ThresholdTest::knowsNoOtherRow);
        Check.sentence("digit outside -1..2 answers NONE", Promise12ThresholdTest::knowsNoOtherDigit);
        Check.sentence("row outside 0..7 and digit outside -1..2 at once", Promise12ThresholdTest::refusesBothAtOnce);
        Check.sentence("threshold(0, 2) = 12, threshold(3, 0) = -6 and threshold(7, -1) = -24",
            Promise12ThresholdTest::answersExamples);
        Check.end();
    }

    private static void changesNothing() {
        for (State state : State.all()) {
            Aftermath.changesNothing("every threshold query", state, unit -> {
                for (int row = -1; row <= 8; row++) {
                    for (int digit = -2; digit <= 3; digit++) {
                        unit.threshold(row, digit);
                    }
                }
            });
        }
    }

    private static void answersTable() {
        for (State state : State.all()) {
            SrtDivider unit = state.make();
            for (int row = 0; row <= 7; row++) {
                for (int digit = -1; digit <= 2; digit++) {
                    due(state, unit, row, digit, SelectionTable.threshold(row, digit));
                }
            }
        }
    }

    private static void knowsNoOtherRow() {
        for (State state : State.all()) {
            SrtDivider unit = state.make();
            for (int row : NO_ROW) {
                for (int digit = -1; digit <= 2; digit++) {
                    due(state, unit, row, digit, NONE);
                }
            }
        }
    }

    private static void knowsNoOtherDigit() {
        for (State state : State.all()) {
            SrtDivider unit = state.make();
            for (int digit : NO_DIGIT) {
                for (int row = 0; row <= 7; row++) {
                    due(state, unit, row, digit, NONE);
                }
            }
        }
    }

    private static void refusesBothAtOnce() {
        for (State state : State.all()) {
            SrtDivider unit = state.make();
            for (int row : NO_ROW) {
                for (int digit : NO_DIGIT) {
                    due(state, unit, row, digit, NONE);
                }
            }
        }
    }

    private static void answersExamples() {
        for (State state : State.all()) {
            SrtDivider unit = state.make();
            due(state, unit, 0, 2, 12);
            due(state, unit, 3, 0, -6);
            due(state, unit, 7, -1, -24);
        }
    }

    private static void due(State state, SrtDivider unit, int row, int digit, int wanted) {
        Check.due("threshold(" + row + ", " + digit + ") in " + state.name(), unit.threshold(row, digit), wanted);
    }
}
