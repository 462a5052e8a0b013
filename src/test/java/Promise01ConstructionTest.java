/** Promise 1: a fresh unit is empty and its history capacity is clamped into 1..16. */
public final class Promise01ConstructionTest {
    public static void main(String[] args) {
        clampsCapacity();
        isEmpty();
        keepsCapacity();
        sharesNothingWithAnotherUnit();
        Check.end();
    }

    private static void clampsCapacity() {
        for (int wanted : new int[] {Integer.MIN_VALUE, -100, -1, 0, 1}) {
            dueCapacity(wanted, 1);
        }
        for (int wanted = 1; wanted <= 16; wanted++) {
            dueCapacity(wanted, wanted);
        }
        for (int wanted : new int[] {16, 17, 18, 32, 65536, Integer.MAX_VALUE}) {
            dueCapacity(wanted, 16);
        }
    }

    private static void dueCapacity(int wanted, int capacity) {
        SrtDivider unit = new SrtDivider(wanted);
        Units.dueCounts("new SrtDivider(" + wanted + ")", unit, 0, 0, capacity);
    }

    private static void isEmpty() {
        for (int wanted : new int[] {Integer.MIN_VALUE, 0, 1, 7, 16, 17, Integer.MAX_VALUE}) {
            SrtDivider unit = new SrtDivider(wanted);
            String state = "new SrtDivider(" + wanted + ")";
            Units.dueRegisters(state, unit, SrtDivider.PHASE_EMPTY, 0,
                Units.NONE, Units.NONE, Units.NONE, Units.NONE, Units.NONE, Units.NONE, Units.NONE);
            Units.dueNoTrace(state, unit);
            Check.due(state + ": history(0, 0)", unit.history(0, 0), Units.NONE);
        }
    }

    private static void keepsCapacity() {
        SrtDivider unit = new SrtDivider(3);
        for (int i = 0; i < 6; i++) {
            unit.divide(100 + i, 7);
            Check.due("capacity after " + (i + 1) + " divisions", unit.status(SrtDivider.STATUS_CAPACITY), 3);
        }
        unit.clearHistory();
        Check.due("capacity after clearHistory", unit.status(SrtDivider.STATUS_CAPACITY), 3);
    }

    private static void sharesNothingWithAnotherUnit() {
        SrtDivider first = Units.iterating(50000, 3, 4);
        long[] before = Snapshot.of(first);
        SrtDivider second = new SrtDivider(2);
        second.divide(65535, 1);
        Check.unchanged("a division on another unit", before, first);
    }
}
