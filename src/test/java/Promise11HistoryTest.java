/** Promise 11: history answers the records of the last divisions, newest first. */
public final class Promise11HistoryTest {
    public static void main(String[] args) {
        isEmptyAtFirst();
        for (int capacity = 1; capacity <= 16; capacity++) {
            keepsTheNewest(capacity);
        }
        holdsCompletedDivisionsAlone();
        for (SrtDivider unit : Units.ofEveryPhase()) {
            knowsNoOtherKind(unit);
            knowsNoOtherRecord(unit);
            changesNothing(unit);
        }
        Check.end();
    }

    private static void isEmptyAtFirst() {
        SrtDivider unit = Units.empty();
        for (int k : new int[] {Integer.MIN_VALUE, -1, 0, 1, 3, 4, 15, 16, Integer.MAX_VALUE}) {
            dueNoRecord(unit, k);
        }
    }

    private static void keepsTheNewest(int capacity) {
        SrtDivider unit = new SrtDivider(capacity);
        for (int done = 1; done <= 40; done++) {
            unit.divide(dividendOf(done), divisorOf(done));
            int count = Math.min(done, capacity);
            for (int k = 0; k < count; k++) {
                int dividend = dividendOf(done - k);
                int divisor = divisorOf(done - k);
                Units.dueRecord("capacity " + capacity + ", " + done + " divisions", unit, k,
                    dividend, divisor, dividend / divisor, dividend % divisor);
            }
            dueNoRecord(unit, count);
        }
    }

    private static int dividendOf(int division) {
        return 65535 - 1601 * division;
    }

    private static int divisorOf(int division) {
        return 1 + 37 * division;
    }

    private static void holdsCompletedDivisionsAlone() {
        SrtDivider unit = Units.done(100, 7);
        unit.load(9, 2);
        unit.start();
        unit.step(9);
        dueNoRecord(unit, 1);
        unit.cancel();
        dueNoRecord(unit, 1);
        unit.start();
        unit.step(10);
        Units.dueRecord("a second division", unit, 0, 9, 2, 4, 1);
        Units.dueRecord("a second division", unit, 1, 100, 7, 14, 2);
    }

    private static void dueNoRecord(SrtDivider unit, int k) {
        Units.dueRecord("no such record", unit, k, Units.NONE, Units.NONE, Units.NONE, Units.NONE);
    }

    private static void knowsNoOtherKind(SrtDivider unit) {
        for (int kind : new int[] {Integer.MIN_VALUE, -4, -1, 4, 5, 256, Integer.MAX_VALUE}) {
            for (int k : new int[] {Integer.MIN_VALUE, -1, 0, 1, 16, Integer.MAX_VALUE}) {
                Check.due("history(" + kind + ", " + k + ")", unit.history(kind, k), Units.NONE);
            }
        }
    }

    private static void knowsNoOtherRecord(SrtDivider unit) {
        for (int k : new int[] {Integer.MIN_VALUE, -16, -1, 2, 3, 4, 15, 16, 17, Integer.MAX_VALUE}) {
            dueNoRecord(unit, k);
        }
    }

    private static void changesNothing(SrtDivider unit) {
        long[] before = Snapshot.of(unit);
        for (int kind = -1; kind <= 4; kind++) {
            for (int k = -1; k <= 17; k++) {
                unit.history(kind, k);
            }
        }
        Check.unchanged("every history query", before, unit);
    }
}
