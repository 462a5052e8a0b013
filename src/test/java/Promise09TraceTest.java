/** Promise 9: trace answers the values recorded for the cycles that are done. */
public final class Promise09TraceTest {
    private static final int NONE = Units.NONE;
    // 40000 / 241, digits of every value among them.
    private static final int[][] WANTED = {
        {NONE, 0, 0, 0, 0, 1, -1, -2, 1, 2},
        {NONE, 0, 0, 0, 2, 9, -22, -25, 22, 29},
        {0, 0, 0, 0, 0, 1, 3, 10, 41, 166},
        {-1, -1, -1, -1, -1, 0, 2, 9, 40, 165},
    };

    public static void main(String[] args) {
        Units.dueNoTrace("EMPTY", Units.empty());
        Units.dueNoTrace("LOADED", Units.loaded(40000, 241));
        for (int cycles = 0; cycles <= 10; cycles++) {
            dueTrace(cycles);
        }
        SrtDivider[] units = Units.ofEveryPhase();
        for (SrtDivider unit : units) {
            knowsNoOtherKind(unit);
            changesNothing(unit);
        }
        Check.end();
    }

    private static void dueTrace(int cycles) {
        SrtDivider unit = Units.iterating(40000, 241, cycles);
        int last = Math.min(cycles, 9);
        for (int kind = 0; kind <= 3; kind++) {
            for (int j = 0; j <= 9; j++) {
                int wanted = j <= last ? WANTED[kind][j] : NONE;
                Check.due("trace(" + kind + ", " + j + ") after cycle " + cycles, unit.trace(kind, j), wanted);
            }
            for (int j : new int[] {Integer.MIN_VALUE, -10, -1, 10, 11, 16, Integer.MAX_VALUE}) {
                Check.due("trace(" + kind + ", " + j + ") after cycle " + cycles, unit.trace(kind, j), NONE);
            }
        }
    }

    private static void knowsNoOtherKind(SrtDivider unit) {
        for (int kind : new int[] {Integer.MIN_VALUE, -4, -1, 4, 5, 256, Integer.MAX_VALUE}) {
            for (int j : new int[] {Integer.MIN_VALUE, -1, 0, 1, 5, 9, 10, Integer.MAX_VALUE}) {
                Check.due("trace(" + kind + ", " + j + ")", unit.trace(kind, j), NONE);
            }
        }
    }

    private static void changesNothing(SrtDivider unit) {
        long[] before = Snapshot.of(unit);
        for (int kind = -1; kind <= 4; kind++) {
            for (int j = -1; j <= 11; j++) {
                unit.trace(kind, j);
            }
        }
        Check.unchanged("every trace query", before, unit);
    }
}
