import java.util.HashMap;
import java.util.HashSet;
import java.util.Map;
import java.util.Set;

/**
 * Each edge operand divided by and into every other one, cycle by cycle, with
 * the words of "Terms" followed beside it; keeps the first division that breaks
 * each claim, and the cases that came up.
 */
final class Sweep {
    private static final int[] EDGES = {
        0, 1, 2, 3, 4, 5, 7, 8, 255, 256, 257, 4095, 4096, 21845, 32767, 32768, 32769, 43690, 65533, 65534, 65535
    };

    private final SrtDivider unit = new SrtDivider(1);
    private final Map<String, String> broken = new HashMap<>();
    private final Set<String> seen = new HashSet<>();
    private final boolean[] rowsSeen = new boolean[8];
    private final boolean[] shiftsSeen = new boolean[16];
    private final boolean[][] estimatesSeen = new boolean[8][128];
    private final boolean[] digitsSeen = new boolean[5];

    // What "Terms" calls X, V, s, D, N, row, S and C, told here from the operands alone.
    private int dividend;
    private int divisor;
    private int shift;
    private int normDivisor;
    private long normDividend;
    private int row;
    private long sum;
    private long carry;

    Sweep() {
        for (int edge : EDGES) {
            for (int other = 0; other <= SrtDivider.MAX_OPERAND; other++) {
                divide(edge, other);
                divide(other, edge);
            }
        }
        nameAll("row ", 0, rowsSeen);
        nameAll("shift ", 0, shiftsSeen);
        nameAll("digit ", -2, digitsSeen);
        for (int line = 0; line < 8; line++) {
            nameAll("row " + line + ", estimate ", -64, estimatesSeen[line]);
        }
    }

    /** The claim held in every division, and each of the cases came up. */
    void due(String claim, String... cases) {
        Check.holds(claim + ", first broken in " + broken.get(claim), !broken.containsKey(claim));
        for (String one : cases) {
            Check.holds(one + " comes up in the sweep", seen.contains(one));
        }
    }

    /** Each row, each shift and both ends of both operands' ranges, against each other. */
    void dueEverywhere(String claim) {
        due(claim, "0 / 1", "0 / 65535", "65535 / 1", "65535 / 65535");
        for (int line = 0; line <= 7; line++) {
            due(claim, "row " + line);
        }
        for (int places = 0; places <= 15; places++) {
            due(claim, "shift " + places);
        }
    }

    private void divide(int newDividend, int newDivisor) {
        if (newDivisor == 0) {
            return;
        }
        dividend = newDividend;
        divisor = newDivisor;
        normalise();
        unit.load(dividend, divisor);
        unit.start();
        claimStart();
        for (int j = 1; j <= 9; j++) {
            unit.step(1);
            followCycle(j);
            claimRecorded(j);
        }
        unit.step(1);
        claimRecorded(9);
        claimCorrection();
        claimResult();
    }

    private void normalise() {
        shift = 0;
        while (divisor << shift < 32768) {
            shift++;
        }
        normDivisor = divisor << shift;
        normDividend = (long) dividend << shift;
        row = (normDivisor >> 12) - 8;
        rowsSeen[row] = true;
        shiftsSeen[shift] = true;
        if ((dividend == 0 || dividend == 65535) && (divisor == 1 || divisor == 65535)) {
            seen.add(dividend + " / " + divisor);
        }
    }

    private void claimStart() {
        sum = normDividend;
        carry = 0;
        claim("s, D and row of the operands", unit.status(SrtDivider.STATUS_SHIFT) == shift
            && unit.status(SrtDivider.STATUS_NORM_DIVISOR) == normDivisor
            && unit.status(SrtDivider.STATUS_ROW) == row);
        claim("QP_0 = 0, QM_0 = -1, P_0 = N", unit.trace(SrtDivider.TRACE_QP, 0) == 0
            && unit.trace(SrtDivider.TRACE_QM, 0) == -1 && unit.partialRemainder(0) == normDividend);
        claimRecorded(0);
    }

    private void followCycle(int j) {
        long a = sum << 2;
        long b = carry << 2;
        int estimate = (int) ((a >> 30) + (b >> 30) & 127);
        estimate = estimate >= 64 ? estimate - 128 : estimate;
        int digit = SelectionTable.digitFor(row, estimate);
        long c = (long) (-digit * normDivisor) << 18;
        sum = a ^ b ^ c;
        carry = (a & b | a & c | b & c) << 1;
        claim("estimate from both shifted words", unit.trace(SrtDivider.TRACE_ESTIMATE, j) == estimate);
        claim("digit chosen by the table", unit.trace(SrtDivider.TRACE_DIGIT, j) == digit);
        claim("partial remainder is S + C", unit.partialRemainder(j) == sum + carry);
        claimAppended(j, digit);
        see(estimate < 0, "a negative estimate");
        estimatesSeen[row][estimate + 64] = true;
        digitsSeen[digit + 2] = true;
    }

    private void claimAppended(int j, int digit) {
        int oldQp = unit.trace(SrtDivider.TRACE_QP, j - 1);
        int oldQm = unit.trace(SrtDivider.TRACE_QM, j - 1);
        int newQp = digit >= 0 ? 4 * oldQp + digit : 4 * oldQm + 4 + digit;
        int newQm = digit > 0 ? 4 * oldQp + digit - 1 : 4 * oldQm + 3 + digit;
        claim("QP with the digit appended", unit.trace(SrtDivider.TRACE_QP, j) == newQp);
        claim("QM with the digit appended", unit.trace(SrtDivider.TRACE_QM, j) == newQm);
    }

    /** What holds of every recorded cycle, whether the division is running or done. */
    private void claimRecorded(int last) {
        for (int j = 0; j <= last; j++) {
            long partial = unit.partialRemainder(j);
            long quotient = unit.trace(SrtDivider.TRACE_QP, j);
            long meaning = (normDividend - (quotient * normDivisor << 2 * (9 - j))) << 2 * j;
            claim("partial remainder within two thirds", 3 * Math.abs(partial) <= (long) normDivisor << 19);
            claim("meaning of the partial remainder", partial == meaning);
            claim("QM is QP less one", unit.trace(SrtDivider.TRACE_QM, j) == quotient - 1);
        }
        for (int j = 1; j <= last; j++) {
            int digit = unit.trace(SrtDivider.TRACE_DIGIT, j);
            int estimate = unit.trace(SrtDivider.TRACE_ESTIMATE, j);
            claim("digit within -2..2", digit >= -2 && digit <= 2);
            claim("estimate within -64..63", estimate >= -64 && estimate <= 63);
        }
    }

    private void claimCorrection() {
        long partial = sum + carry;
        int quotient = unit.trace(partial < 0 ? SrtDivider.TRACE_QM : SrtDivider.TRACE_QP, 9);
        long remainder = (partial >> 18) + (partial < 0 ? normDivisor : 0);
        claim("quotient register picked by the sign", unit.status(SrtDivider.STATUS_QUOTIENT) == quotient);
        claim("remainder corrected by the sign", unit.status(SrtDivider.STATUS_REMAINDER) == (int) remainder >> shift);
        see(partial < 0, "a negative P_9");
        see(partial == 0, "a P_9 of 0");
        see(partial > 0, "a positive P_9");
    }

    private void claimResult() {
        int quotient = unit.status(SrtDivider.STATUS_QUOTIENT);
        int remainder = unit.status(SrtDivider.STATUS_REMAINDER);
        claim("X = q*V + r", dividend == quotient * divisor + remainder);
        claim("0 <= r < V", remainder >= 0 && remainder < divisor);
        claim("the division recorded", unit.history(SrtDivider.HIST_DIVIDEND, 0) == dividend
            && unit.history(SrtDivider.HIST_DIVISOR, 0) == divisor
            && unit.history(SrtDivider.HIST_QUOTIENT, 0) == quotient
            && unit.history(SrtDivider.HIST_REMAINDER, 0) == remainder);
        see(remainder == 0, "a remainder of 0");
        see(remainder == divisor - 1, "a remainder of V - 1");
        see(quotient == 0, "a quotient of 0");
        see(quotient == 65535, "a quotient of 65535");
    }

    private void nameAll(String name, int first, boolean[] cases) {
        for (int i = 0; i < cases.length; i++) {
            see(cases[i], name + (first + i));
        }
    }

    private void claim(String name, boolean holds) {
        if (!holds) {
            broken.putIfAbsent(name, dividend + " / " + divisor);
        }
    }

    private void see(boolean isHere, String name) {
        if (isHere) {
            seen.add(name);
        }
    }
}
