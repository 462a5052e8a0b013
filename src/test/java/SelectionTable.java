/** The selection table of the document, told a second time for the tests. */
final class SelectionTable {
    private static final int[][] ROWS = {
        {12, 4, -4, -13},
        {14, 5, -5, -15},
        {15, 5, -5, -16},
        {16, 6, -6, -17},
        {18, 6, -6, -19},
        {20, 7, -7, -20},
        {21, 7, -7, -22},
        {23, 8, -8, -24},
    };

    private SelectionTable() {
    }

    static int threshold(int row, int digit) {
        return ROWS[row][2 - digit];
    }

    static int digitFor(int row, int estimate) {
        int digit = -2;
        for (int threshold : ROWS[row]) {
            digit += estimate >= threshold ? 1 : 0;
        }
        return digit;
    }
}
