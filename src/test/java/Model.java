import java.util.ArrayList;
import java.util.List;

/**
 * The document told a second time, as unlike the class as can be: the
 * carry-save adder goes bit by bit, the quotient is a plain sum of digits, the
 * result comes from / and %, and the history is a list.
 */
final class Model {
    private static final int NONE = Integer.MIN_VALUE;
    private static final long NONE_LONG = Long.MIN_VALUE;

    private record Row(int digit, int estimate, int quotient, long partial) {
    }

    private record Past(int dividend, int divisor) {
    }

    private final int capacity;
    private final List<Past> past = new ArrayList<>();
    private int divisions = 0;
    private int phase = 0;
    private int cyclesDone = 0;
    private int dividend;
    private int divisor;
    private List<Row> rows = List.of();

    Model(int historyCapacity) {
        capacity = Math.max(1, Math.min(16, historyCapacity));
    }

    boolean load(int newDividend, int newDivisor) {
        boolean inRange = newDividend >= 0 && newDividend < 65536 && newDivisor > 0 && newDivisor < 65536;
        if (phase == 2 || !inRange) {
            return false;
        }
        dividend = newDividend;
        divisor = newDivisor;
        phase = 1;
        cyclesDone = 0;
        return true;
    }

    boolean start() {
        if (phase != 1) {
            return false;
        }
        rows = rowsOf(dividend, divisor);
        phase = 2;
        cyclesDone = 0;
        return true;
    }

    int step(int count) {
        if (phase != 2 || count < 1) {
            return 0;
        }
        int cycles = (int) Math.min((long) count, 10L - cyclesDone);
        cyclesDone += cycles;
        if (cyclesDone == 10) {
            finish();
        }
        return cycles;
    }

    boolean divide(int newDividend, int newDivisor) {
        return load(newDividend, newDivisor) && start() && step(10) == 10;
    }

    boolean cancel() {
        if (phase != 2) {
            return false;
        }
        phase = 1;
        cyclesDone = 0;
        return true;
    }

    void clearHistory() {
        past.clear();
    }

    int status(int kind) {
        boolean started = phase >= 2;
        return switch (kind) {
            case 0 -> phase;
            case 1 -> started ? cyclesDone : 0;
            case 2 -> phase == 0 ? NONE : dividend;
            case 3 -> phase == 0 ? NONE : divisor;
            case 4 -> started ? shiftOf(divisor) : NONE;
            case 5 -> started ? normalised(divisor) : NONE;
            case 6 -> started ? rowOf(divisor) : NONE;
            case 7 -> phase == 3 ? dividend / divisor : NONE;
            case 8 -> phase == 3 ? dividend % divisor : NONE;
            case 9 -> past.size();
            case 10 -> divisions;
            case 11 -> capacity;
            default -> NONE;
        };
    }

    int trace(int kind, int j) {
        int first = kind == 0 || kind == 1 ? 1 : 0;
        if (kind < 0 || kind > 3 || phase < 2 || j < first || j > Math.min(cyclesDone, 9)) {
            return NONE;
        }
        Row row = rows.get(j);
        return switch (kind) {
            case 0 -> row.digit();
            case 1 -> row.estimate();
            case 2 -> row.quotient();
            default -> row.quotient() - 1;
        };
    }

    long partialRemainder(int j) {
        boolean exists = phase >= 2 && j >= 0 && j <= Math.min(cyclesDone, 9);
        return exists ? rows.get(j).partial() : NONE_LONG;
    }

    int history(int kind, int k) {
        if (kind < 0 || kind > 3 || k < 0 || k >= past.size()) {
            return NONE;
        }
        Past record = past.get(k);
        return switch (kind) {
            case 0 -> record.dividend();
            case 1 -> record.divisor();
            case 2 -> record.dividend() / record.divisor();
            default -> record.dividend() % record.divisor();
        };
    }

    int threshold(int row, int digit) {
        boolean exists = row >= 0 && row <= 7 && digit >= -1 && digit <= 2;
        return exists ? SelectionTable.threshold(row, digit) : NONE;
    }

    private void finish() {
        phase = 3;
        divisions++;
        past.add(0, new Past(dividend, divisor));
        if (past.size() > capacity) {
            past.remove(capacity);
        }
    }

    private static int shiftOf(int divisor) {
        return Integer.numberOfLeadingZeros(divisor) - 16;
    }

    private static int normalised(int divisor) {
        return divisor * (1 << shiftOf(divisor));
    }

    private static int rowOf(int divisor) {
        return normalised(divisor) / 4096 - 8;
    }

    private static List<Row> rowsOf(int dividend, int divisor) {
        long start = (long) dividend * (1 << shiftOf(divisor));
        long scaledDivisor = normalised(divisor) * 262144L;
        List<Row> rows = new ArrayList<>();
        rows.add(new Row(NONE, NONE, 0, start));
        long[] words = {start, 0};
        int quotient = 0;
        for (int j = 1; j <= 9; j++) {
            long a = words[0] * 4;
            long b = words[1] * 4;
            int estimate = estimateOf(a, b);
            int digit = SelectionTable.digitFor(rowOf(divisor), estimate);
            words = carrySave(a, b, -digit * scaledDivisor);
            quotient = 4 * quotient + digit;
            rows.add(new Row(digit, estimate, quotient, words[0] + words[1]));
        }
        return rows;
    }

    private static int estimateOf(long a, long b) {
        long sum = Math.floorDiv(a, 1L << 30) + Math.floorDiv(b, 1L << 30);
        return (int) (Math.floorMod(sum + 64, 128L) - 64);
    }

    private static long[] carrySave(long a, long b, long c) {
        long sum = 0;
        long carry = 0;
        for (int bit = 0; bit < 64; bit++) {
            long ones = (a >>> bit & 1) + (b >>> bit & 1) + (c >>> bit & 1);
            sum |= (ones & 1) << bit;
            if (bit < 63) {
                carry |= (ones >> 1) << bit + 1;
            }
        }
        return new long[] {sum, carry};
    }
}
