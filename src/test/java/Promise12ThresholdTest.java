/** Promise 12: threshold answers the selection table in every phase. */
public final class Promise12ThresholdTest {
    // By row: m(2), m(1), m(0), m(-1).
    private static final int[][] TABLE = {
        {12, 4, -4, -13},
        {14, 5, -5, -15},
        {15, 5, -5, -16},
        {16, 6, -6, -17},
        {18, 6, -6, -19},
        {20, 7, -7, -20},
        {21, 7, -7, -22},
        {23, 8, -8, -24},
    };
    private static final int[] NO_ROW = {Integer.MIN_VALUE, -8, -1, 8, 9, 16, Integer.MAX_VALUE};
    private static final int[] NO_DIGIT = {Integer.MIN_VALUE, -3, -2, 3, 4, Integer.MAX_VALUE};

    public static void main(String[] args) {
        for (SrtDivider unit : Units.ofEveryPhase()) {
            long[] before = Snapshot.of(unit);
            answersTable(unit);
            knowsNoOtherRow(unit);
            knowsNoOtherDigit(unit);
            Check.unchanged("every threshold query", before, unit);
        }
        Check.end();
    }

    private static void answersTable(SrtDivider unit) {
        for (int row = 0; row <= 7; row++) {
            for (int digit = -1; digit <= 2; digit++) {
                dueThreshold(unit, row, digit, TABLE[row][2 - digit]);
            }
        }
    }

    private static void knowsNoOtherRow(SrtDivider unit) {
        for (int row : NO_ROW) {
            for (int digit = -3; digit <= 4; digit++) {
                dueThreshold(unit, row, digit, Units.NONE);
            }
        }
    }

    private static void knowsNoOtherDigit(SrtDivider unit) {
        for (int digit : NO_DIGIT) {
            for (int row = -1; row <= 8; row++) {
                dueThreshold(unit, row, digit, Units.NONE);
            }
        }
    }

    private static void dueThreshold(SrtDivider unit, int row, int digit, int wanted) {
        Check.due("threshold(" + row + ", " + digit + ")", unit.threshold(row, digit), wanted);
    }
}
