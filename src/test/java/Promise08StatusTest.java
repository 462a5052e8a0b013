/** Promise 8: status answers each kind in each phase, and NONE for any other kind. */
public final class Promise08StatusTest {
    private static final int NONE = Units.NONE;

    public static void main(String[] args) {
        SrtDivider[] units = Units.ofEveryPhase();
        dueStatus("EMPTY", units[0], 0, 0, NONE, NONE, NONE, NONE, NONE, NONE, NONE, 0, 0, 4);
        dueStatus("LOADED", units[1], 1, 0, 50000, 3, NONE, NONE, NONE, NONE, NONE, 1, 1, 4);
        dueStatus("ITERATING", units[2], 2, 0, 50000, 3, 14, 49152, 4, NONE, NONE, 1, 1, 4);
        dueStatus("ITERATING", units[3], 2, 5, 50000, 3, 14, 49152, 4, NONE, NONE, 1, 1, 4);
        dueStatus("DONE", units[4], 3, 10, 50000, 3, 14, 49152, 4, 16666, 2, 2, 2, 4);
        for (SrtDivider unit : units) {
            knowsNoOtherKind(unit);
            changesNothing(unit);
        }
        countsBeyondCapacity();
        Check.end();
    }

    private static void dueStatus(String state, SrtDivider unit, int... wanted) {
        for (int kind = 0; kind <= 11; kind++) {
            Check.due(state + ": status(" + kind + ")", unit.status(kind), wanted[kind]);
        }
    }

    private static void knowsNoOtherKind(SrtDivider unit) {
        for (int kind : new int[] {Integer.MIN_VALUE, -256, -12, -1, 12, 13, 256, 65536, Integer.MAX_VALUE}) {
            Check.due("status(" + kind + ")", unit.status(kind), NONE);
        }
    }

    private static void changesNothing(SrtDivider unit) {
        long[] before = Snapshot.of(unit);
        for (int kind = -2; kind <= 13; kind++) {
            unit.status(kind);
            Check.unchanged("status(" + kind + ")", before, unit);
        }
    }

    private static void countsBeyondCapacity() {
        SrtDivider unit = new SrtDivider(2);
        for (int i = 1; i <= 40; i++) {
            unit.divide(i, 3);
            Units.dueCounts("division " + i, unit, Math.min(i, 2), i, 2);
        }
    }
}
