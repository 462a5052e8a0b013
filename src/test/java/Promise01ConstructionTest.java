/** Promise 1: a fresh unit is empty and its history capacity is clamped into 1..16. */
public final class Promise01ConstructionTest {
    private static final int[] BELOW = {Integer.MIN_VALUE, Integer.MIN_VALUE + 1, -65535, -16, -2, -1, 0};
    private static final int[] ABOVE = {17, 18, 32, 257, 65537, Integer.MAX_VALUE - 1, Integer.MAX_VALUE};

    public static void main(String[] args) {
        Check.sentence("a fresh unit in phase PHASE_EMPTY with an empty history and 0 divisions completed",
            Promise01ConstructionTest::isFresh);
        Check.sentence("a value below 1 becomes 1", Promise01ConstructionTest::raisesToOne);
        Check.sentence("a value above 16 becomes 16", Promise01ConstructionTest::lowersToSixteen);
        Check.sentence("any value in 1..16 is kept", Promise01ConstructionTest::keepsWhatIsInRange);
        Check.sentence("Every int argument is accepted, including Integer.MIN_VALUE and Integer.MAX_VALUE",
            Promise01ConstructionTest::worksWithEveryArgument);
        Check.sentence("The clamped capacity never changes afterwards",
            Promise01ConstructionTest::neverChangesCapacity);
        Check.sentence("No operands are held, so dividend, divisor, shift, normalised divisor, row, quotient and"
            + " remainder all read as NONE and the cycle count reads 0", Promise01ConstructionTest::holdsNoOperands);
        Check.sentence("a fresh unit, whatever another unit has done",
            Promise01ConstructionTest::sharesNothingWithAnotherUnit);
        Check.end();
    }

    private static void isFresh() {
        for (int wanted = -1; wanted <= 18; wanted++) {
            SrtDivider unit = new SrtDivider(wanted);
            String state = "new SrtDivider(" + wanted + ")";
            Check.due(state + ": phase", unit.status(SrtDivider.STATUS_PHASE), SrtDivider.PHASE_EMPTY);
            Units.dueCounts(state, unit, 0, 0, Math.max(1, Math.min(16, wanted)));
            Units.duePast(state, unit, 16, 0, 0);
        }
    }

    private static void raisesToOne() {
        for (int wanted : BELOW) {
            dueCapacity(wanted, 1);
        }
    }

    private static void lowersToSixteen() {
        for (int wanted : ABOVE) {
            dueCapacity(wanted, 16);
        }
    }

    private static void keepsWhatIsInRange() {
        for (int wanted = 1; wanted <= 16; wanted++) {
            dueCapacity(wanted, wanted);
        }
    }

    /** The capacity that is told, and the one that the history has. */
    private static void dueCapacity(int wanted, int capacity) {
        SrtDivider unit = new SrtDivider(wanted);
        String state = "new SrtDivider(" + wanted + ")";
        Check.due(state + ": capacity", unit.status(SrtDivider.STATUS_CAPACITY), capacity);
        for (int i = 1; i <= 20; i++) {
            unit.divide(i, 1);
            Check.due(state + ": history count", unit.status(SrtDivider.STATUS_HISTORY_COUNT), Math.min(i, capacity));
        }
    }

    private static void worksWithEveryArgument() {
        for (int wanted : new int[] {Integer.MIN_VALUE, Integer.MAX_VALUE}) {
            SrtDivider unit = Units.filled(wanted, 20);
            int capacity = wanted < 0 ? 1 : 16;
            String state = "new SrtDivider(" + wanted + ")";
            Units.dueCounts(state, unit, capacity, 20, capacity);
            Units.duePast(state, unit, capacity, 20, 0);
        }
        for (long wanted = Integer.MIN_VALUE; wanted <= Integer.MAX_VALUE; wanted += 104729) {
            int capacity = (int) Math.max(1, Math.min(16, wanted));
            Check.due("new SrtDivider(" + wanted + "): capacity",
                new SrtDivider((int) wanted).status(SrtDivider.STATUS_CAPACITY), capacity);
        }
    }

    private static void neverChangesCapacity() {
        for (int capacity = 1; capacity <= 16; capacity++) {
            SrtDivider unit = new SrtDivider(capacity);
            for (int call = 0; call < 400; call++) {
                makeCall(unit, call);
                Check.due("capacity after call " + call, unit.status(SrtDivider.STATUS_CAPACITY), capacity);
            }
        }
    }

    private static void makeCall(SrtDivider unit, int call) {
        switch (call % 11) {
            case 0 -> unit.load(call, 7);
            case 1 -> unit.load(call, 0);
            case 2, 6 -> unit.start();
            case 3 -> unit.step(4);
            case 4 -> unit.divide(call, 3);
            case 5 -> unit.cancel();
            case 7 -> unit.step(Integer.MAX_VALUE);
            case 8 -> unit.divide(call, 3);
            case 9 -> unit.divide(-1, call);
            default -> {
                if (call % 7 == 0) {
                    unit.clearHistory();
                }
            }
        }
    }

    private static void holdsNoOperands() {
        for (int wanted : new int[] {Integer.MIN_VALUE, 0, 1, 7, 16, 17, Integer.MAX_VALUE}) {
            SrtDivider unit = new SrtDivider(wanted);
            String state = "new SrtDivider(" + wanted + ")";
            Units.dueRegisters(state, unit, SrtDivider.PHASE_EMPTY, 0,
                Units.NONE, Units.NONE, Units.NONE, Units.NONE, Units.NONE, Units.NONE, Units.NONE);
            Units.dueNoTrace(state, unit);
        }
    }

    private static void sharesNothingWithAnotherUnit() {
        SrtDivider first = Units.iterating(2, 50000, 3, 4);
        long[] before = Snapshot.of(first);
        SrtDivider second = new SrtDivider(2);
        Check.unchanged("making another unit", before, first);
        long[] fresh = Snapshot.of(second);
        first.step(10);
        Check.unchanged("a division on another unit", fresh, second);
    }
}
