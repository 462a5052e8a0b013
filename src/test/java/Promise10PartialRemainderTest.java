/** Promise 10: partialRemainder answers P_j for the cycles that are done. */
public final class Promise10PartialRemainderTest {
    private static final int[] OUTSIDE = {Integer.MIN_VALUE, -10, -1, 10, 11, 16, Integer.MAX_VALUE};
    // 40000 / 241
    private static final long[] WANTED = {
        10240000L, 40960000L, 163840000L, 655360000L, 2621440000L,
        -5687476224L, -6576668672L, 6039797760L, 7985954816L, -402653184L
    };

    public static void main(String[] args) {
        Units.dueNoTrace("EMPTY", Units.empty());
        Units.dueNoTrace("LOADED", Units.loaded(40000, 241));
        for (int cycles = 0; cycles <= 10; cycles++) {
            duePartials(cycles);
        }
        hasGreatestStart();
        for (SrtDivider unit : Units.ofEveryPhase()) {
            changesNothing(unit);
        }
        Check.end();
    }

    private static void duePartials(int cycles) {
        SrtDivider unit = Units.iterating(40000, 241, cycles);
        int last = Math.min(cycles, 9);
        for (int j = 0; j <= 9; j++) {
            long wanted = j <= last ? WANTED[j] : Units.NONE_LONG;
            Check.due("partialRemainder(" + j + ") after cycle " + cycles, unit.partialRemainder(j), wanted);
        }
        for (int j : OUTSIDE) {
            Check.due("partialRemainder(" + j + ") after cycle " + cycles, unit.partialRemainder(j), Units.NONE_LONG);
        }
    }

    private static void hasGreatestStart() {
        Check.due("P_0 of 65535 / 1", Units.iterating(65535, 1, 0).partialRemainder(0), 2147450880L);
        Check.due("P_9 of 65535 / 1", Units.done(65535, 1).partialRemainder(9), 0L);
    }

    private static void changesNothing(SrtDivider unit) {
        long[] before = Snapshot.of(unit);
        for (int j = -1; j <= 11; j++) {
            unit.partialRemainder(j);
        }
        Check.unchanged("every partialRemainder query", before, unit);
    }
}
