public final class SrtDivider {
    public static final int NONE = -2147483648;
    public static final long NONE_LONG = -9223372036854775808L;

    public static final int PHASE_EMPTY = 0;
    public static final int PHASE_LOADED = 1;
    public static final int PHASE_ITERATING = 2;
    public static final int PHASE_DONE = 3;

    public static final int ITERATION_CYCLES = 9;
    public static final int LAST_CYCLE = 10;

    public static final int MAX_OPERAND = 65535;
    public static final int HISTORY_MIN = 1;
    public static final int HISTORY_MAX = 16;

    public static final int STATUS_PHASE = 0;
    public static final int STATUS_CYCLE = 1;
    public static final int STATUS_DIVIDEND = 2;
    public static final int STATUS_DIVISOR = 3;
    public static final int STATUS_SHIFT = 4;
    public static final int STATUS_NORM_DIVISOR = 5;
    public static final int STATUS_ROW = 6;
    public static final int STATUS_QUOTIENT = 7;
    public static final int STATUS_REMAINDER = 8;
    public static final int STATUS_HISTORY_COUNT = 9;
    public static final int STATUS_DIVISIONS = 10;
    public static final int STATUS_CAPACITY = 11;

    public static final int TRACE_DIGIT = 0;
    public static final int TRACE_ESTIMATE = 1;
    public static final int TRACE_QP = 2;
    public static final int TRACE_QM = 3;

    public static final int HIST_DIVIDEND = 0;
    public static final int HIST_DIVISOR = 1;
    public static final int HIST_QUOTIENT = 2;
    public static final int HIST_REMAINDER = 3;

    private static final int TABLE_ROWS = 8;
    private static final int TABLE_COLUMNS = 4;
    private static final int TABLE_SIZE = 32;
    private static final int HIGHEST_DIGIT = 2;
    private static final int LOWEST_TABLE_DIGIT = -1;

    // One place for cycle 0 and one for each iteration cycle.
    private static final int RECORDED_CYCLES = 10;

    private static final int MAX_SHIFT = 15;
    private static final int NORMALISED_MIN = 32768;

    // N carries 18 fraction bits after nine shifts by two, so D and the final
    // remainder stand 18 bits up in the partial remainder.
    private static final int DIVISOR_SCALE = 18;
    private static final int ESTIMATE_SHIFT = 30;

    private final int[] table = new int[TABLE_SIZE];

    private final int[] digits = new int[RECORDED_CYCLES];
    private final int[] estimates = new int[RECORDED_CYCLES];
    private final int[] quotients = new int[RECORDED_CYCLES];
    private final int[] quotientsLessOne = new int[RECORDED_CYCLES];
    private final long[] partials = new long[RECORDED_CYCLES];

    private final int[] pastDividends = new int[HISTORY_MAX];
    private final int[] pastDivisors = new int[HISTORY_MAX];
    private final int[] pastQuotients = new int[HISTORY_MAX];
    private final int[] pastRemainders = new int[HISTORY_MAX];

    private final int capacity;
    private int pastCount;
    private int divisions;

    private int phase;
    private int cyclesDone;
    private int heldDividend;
    private int heldDivisor;

    private int shift;
    private int normDivisor;
    private int tableRow;
    private long sumWord;
    private long carryWord;
    private int qp;
    private int qm;
    private int finalQuotient;
    private int finalRemainder;

    public SrtDivider(int historyCapacity) {
        capacity = clampCapacity(historyCapacity);
        phase = PHASE_EMPTY;
        fillTable();
    }

    public boolean load(int dividend, int divisor) {
        if (!canLoad(dividend, divisor)) {
            return false;
        }
        holdOperands(dividend, divisor);
        return true;
    }

    public boolean start() {
        if (phase != PHASE_LOADED) {
            return false;
        }
        beginDivision();
        return true;
    }

    public int step(int count) {
        if (phase != PHASE_ITERATING || count < 1) {
            return 0;
        }
        int left = LAST_CYCLE - cyclesDone;
        int cycles = count < left ? count : left;
        runCycles(cycles);
        return cycles;
    }

    public boolean divide(int dividend, int divisor) {
        if (!canLoad(dividend, divisor)) {
            return false;
        }
        holdOperands(dividend, divisor);
        beginDivision();
        runCycles(LAST_CYCLE);
        return true;
    }

    public boolean cancel() {
        if (phase != PHASE_ITERATING) {
            return false;
        }
        holdOperands(heldDividend, heldDivisor);
        return true;
    }

    public void clearHistory() {
        pastCount = 0;
    }

    public int status(int kind) {
        switch (kind) {
            case STATUS_PHASE:
                return phase;
            case STATUS_CYCLE:
                return cyclesDone;
            case STATUS_DIVIDEND:
                return phase != PHASE_EMPTY ? heldDividend : NONE;
            case STATUS_DIVISOR:
                return phase != PHASE_EMPTY ? heldDivisor : NONE;
            case STATUS_SHIFT:
                return isStarted() ? shift : NONE;
            case STATUS_NORM_DIVISOR:
                return isStarted() ? normDivisor : NONE;
            case STATUS_ROW:
                return isStarted() ? tableRow : NONE;
            case STATUS_QUOTIENT:
                return phase == PHASE_DONE ? finalQuotient : NONE;
            case STATUS_REMAINDER:
                return phase == PHASE_DONE ? finalRemainder : NONE;
            case STATUS_HISTORY_COUNT:
                return pastCount;
            case STATUS_DIVISIONS:
                return divisions;
            case STATUS_CAPACITY:
                return capacity;
            default:
                return NONE;
        }
    }

    public int trace(int kind, int j) {
        if (!isRecorded(j)) {
            return NONE;
        }
        switch (kind) {
            case TRACE_DIGIT:
                return j > 0 ? digits[j] : NONE;
            case TRACE_ESTIMATE:
                return j > 0 ? estimates[j] : NONE;
            case TRACE_QP:
                return quotients[j];
            case TRACE_QM:
                return quotientsLessOne[j];
            default:
                return NONE;
        }
    }

    public long partialRemainder(int j) {
        return isRecorded(j) ? partials[j] : NONE_LONG;
    }

    public int history(int kind, int k) {
        if (k < 0 || k >= pastCount) {
            return NONE;
        }
        switch (kind) {
            case HIST_DIVIDEND:
                return pastDividends[k];
            case HIST_DIVISOR:
                return pastDivisors[k];
            case HIST_QUOTIENT:
                return pastQuotients[k];
            case HIST_REMAINDER:
                return pastRemainders[k];
            default:
                return NONE;
        }
    }

    public int threshold(int row, int digit) {
        if (row < 0 || row >= TABLE_ROWS) {
            return NONE;
        }
        if (digit < LOWEST_TABLE_DIGIT || digit > HIGHEST_DIGIT) {
            return NONE;
        }
        return tableEntry(row, digit);
    }

    private static int clampCapacity(int wanted) {
        if (wanted < HISTORY_MIN) {
            return HISTORY_MIN;
        }
        return wanted > HISTORY_MAX ? HISTORY_MAX : wanted;
    }

    private void fillTable() {
        fillRow(0, 12, 4, -4, -13);
        fillRow(1, 14, 5, -5, -15);
        fillRow(2, 15, 5, -5, -16);
        fillRow(3, 16, 6, -6, -17);
        fillRow(4, 18, 6, -6, -19);
        fillRow(5, 20, 7, -7, -20);
        fillRow(6, 21, 7, -7, -22);
        fillRow(7, 23, 8, -8, -24);
    }

    private void fillRow(int row, int two, int one, int zero, int minusOne) {
        int first = row * TABLE_COLUMNS;
        table[first] = two;
        table[first + 1] = one;
        table[first + 2] = zero;
        table[first + 3] = minusOne;
    }

    private int tableEntry(int row, int digit) {
        return table[row * TABLE_COLUMNS + HIGHEST_DIGIT - digit];
    }

    private boolean canLoad(int dividend, int divisor) {
        return phase != PHASE_ITERATING
            && dividend >= 0 && dividend <= MAX_OPERAND
            && divisor >= 1 && divisor <= MAX_OPERAND;
    }

    private boolean isStarted() {
        return phase == PHASE_ITERATING || phase == PHASE_DONE;
    }

    // The correction cycle records nothing, so cycle 10 has no place of its own.
    private boolean isRecorded(int j) {
        return isStarted() && j >= 0 && j <= cyclesDone && j <= ITERATION_CYCLES;
    }

    private void holdOperands(int dividend, int divisor) {
        heldDividend = dividend;
        heldDivisor = divisor;
        cyclesDone = 0;
        phase = PHASE_LOADED;
    }

    private void beginDivision() {
        shift = shiftToNormalise(heldDivisor);
        normDivisor = heldDivisor << shift;
        tableRow = (normDivisor >> 12) - 8;
        sumWord = ((long) heldDividend) << shift;
        carryWord = 0L;
        qp = 0;
        qm = -1;
        cyclesDone = 0;
        phase = PHASE_ITERATING;
        recordRegisters(0);
    }

    private static int shiftToNormalise(int divisor) {
        int places = 0;
        while (places < MAX_SHIFT && (divisor << places) < NORMALISED_MIN) {
            places++;
        }
        return places;
    }

    private void runCycles(int cycles) {
        for (int i = 0; i < cycles; i++) {
            if (cyclesDone < ITERATION_CYCLES) {
                iterate(cyclesDone + 1);
            } else {
                correct();
            }
            cyclesDone++;
        }
    }

    private void iterate(int j) {
        long a = sumWord << 2;
        long b = carryWord << 2;
        int estimate = truncatedEstimate(a, b);
        int digit = chooseDigit(estimate);
        addMultiple(a, b, digit);
        appendDigit(digit);
        estimates[j] = estimate;
        digits[j] = digit;
        recordRegisters(j);
    }

    private static int truncatedEstimate(long a, long b) {
        long e = (a >> ESTIMATE_SHIFT) + (b >> ESTIMATE_SHIFT);
        int low = (int) (e & 127L);
        return low >= 64 ? low - 128 : low;
    }

    private int chooseDigit(int estimate) {
        for (int digit = HIGHEST_DIGIT; digit >= LOWEST_TABLE_DIGIT; digit--) {
            if (estimate >= tableEntry(tableRow, digit)) {
                return digit;
            }
        }
        return LOWEST_TABLE_DIGIT - 1;
    }

    private void addMultiple(long a, long b, int digit) {
        long c = ((long) (-digit * normDivisor)) << DIVISOR_SCALE;
        sumWord = a ^ b ^ c;
        carryWord = ((a & b) | (a & c) | (b & c)) << 1;
    }

    // Keeping the quotient less one beside the quotient lets a negative digit
    // be appended without a borrow running through the digits before it.
    private void appendDigit(int digit) {
        int newQp = digit >= 0 ? 4 * qp + digit : 4 * qm + 4 + digit;
        int newQm = digit > 0 ? 4 * qp + digit - 1 : 4 * qm + 3 + digit;
        qp = newQp;
        qm = newQm;
    }

    private void recordRegisters(int j) {
        quotients[j] = qp;
        quotientsLessOne[j] = qm;
        partials[j] = sumWord + carryWord;
    }

    private void correct() {
        long partial = partials[ITERATION_CYCLES];
        int scaled = (int) (partial >> DIVISOR_SCALE);
        boolean tooFar = partial < 0L;
        finalQuotient = tooFar ? qm : qp;
        finalRemainder = (tooFar ? scaled + normDivisor : scaled) >> shift;
        phase = PHASE_DONE;
        divisions++;
        pushHistory();
    }

    // Newest first: every record moves one place down, and what stands beyond
    // the capacity is never read.
    private void pushHistory() {
        for (int k = HISTORY_MAX - 1; k > 0; k--) {
            pastDividends[k] = pastDividends[k - 1];
            pastDivisors[k] = pastDivisors[k - 1];
            pastQuotients[k] = pastQuotients[k - 1];
            pastRemainders[k] = pastRemainders[k - 1];
        }
        pastDividends[0] = heldDividend;
        pastDivisors[0] = heldDivisor;
        pastQuotients[0] = finalQuotient;
        pastRemainders[0] = finalRemainder;
        if (pastCount < capacity) {
            pastCount++;
        }
    }
}
