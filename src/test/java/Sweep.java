import java.util.HashMap;
import java.util.HashSet;
import java.util.Map;
import java.util.Set;

/** Each edge operand divided by and into every other one; keeps the first division that breaks each claim. */
final class Sweep {
    private static final int[] EDGES = {
        0, 1, 2, 3, 4, 5, 7, 8, 255, 256, 257, 4095, 4096, 21845, 32767, 32768, 32769, 43690, 65533, 65534, 65535
    };

    private final SrtDivider unit = new SrtDivider(1);
    private final Map<String, String> broken = new HashMap<>();
    private final Set<String> seen = new HashSet<>();
    private final boolean[][] estimatesSeen = new boolean[8][128];
    private final boolean[] digitsSeen = new boolean[5];
    private int dividend;
    private int divisor;
    private int row;
    private long normDivisor;

    Sweep() {
        for (int edge : EDGES) {
            for (int other = 0; other <= SrtDivider.MAX_OPERAND; other++) {
                divide(edge, other);
                divide(other, edge);
            }
        }
        nameEstimatesSeen();
        nameDigitsSeen();
    }

    /** The claim held in every division, and each of the cases that it names came up. */
    void due(String claim, String... cases) {
        Check.holds(claim + ", first broken in " + broken.get(claim), !broken.containsKey(claim));
        for (String one : cases) {
            Check.holds(one + " comes up in the sweep", seen.contains(one));
        }
    }

    private void divide(int newDividend, int newDivisor) {
        if (newDivisor == 0) {
            return;
        }
        dividend = newDividend;
        divisor = newDivisor;
        unit.load(dividend, divisor);
        unit.start();
        unit.step(10);
        row = unit.status(SrtDivider.STATUS_ROW);
        normDivisor = unit.status(SrtDivider.STATUS_NORM_DIVISOR);
        for (int j = 0; j <= 9; j++) {
            claimRegisters(j);
        }
        for (int j = 1; j <= 9; j++) {
            claimDigit(j);
            claimAppended(j);
        }
        claimCorrection();
        claimResult();
    }

    private void claimRegisters(int j) {
        long partial = unit.partialRemainder(j);
        long quotient = unit.trace(SrtDivider.TRACE_QP, j);
        long meaning = (unit.partialRemainder(0) - (quotient * normDivisor << 2 * (9 - j))) << 2 * j;
        claim("partial remainder within two thirds", 3 * Math.abs(partial) <= normDivisor << 19);
        claim("meaning of the partial remainder", partial == meaning);
        claim("QM is QP less one", unit.trace(SrtDivider.TRACE_QM, j) == quotient - 1);
    }

    private void claimDigit(int j) {
        int digit = unit.trace(SrtDivider.TRACE_DIGIT, j);
        int estimate = unit.trace(SrtDivider.TRACE_ESTIMATE, j);
        claim("digit within -2..2", digit >= -2 && digit <= 2);
        claim("estimate within -64..63", estimate >= -64 && estimate <= 63);
        claim("digit chosen by the table", digit == SelectionTable.digitFor(row, estimate));
        see(estimate < 0, "a negative estimate");
        estimatesSeen[row][estimate + 64 & 127] = true;
        digitsSeen[Math.floorMod(digit + 2, 5)] = true;
    }

    private void claimAppended(int j) {
        int digit = unit.trace(SrtDivider.TRACE_DIGIT, j);
        int oldQp = unit.trace(SrtDivider.TRACE_QP, j - 1);
        int oldQm = unit.trace(SrtDivider.TRACE_QM, j - 1);
        int newQp = digit >= 0 ? 4 * oldQp + digit : 4 * oldQm + 4 + digit;
        int newQm = digit > 0 ? 4 * oldQp + digit - 1 : 4 * oldQm + 3 + digit;
        claim("QP with the digit appended", unit.trace(SrtDivider.TRACE_QP, j) == newQp);
        claim("QM with the digit appended", unit.trace(SrtDivider.TRACE_QM, j) == newQm);
    }

    private void claimCorrection() {
        long partial = unit.partialRemainder(9);
        int shift = unit.status(SrtDivider.STATUS_SHIFT);
        int quotient = unit.trace(partial < 0 ? SrtDivider.TRACE_QM : SrtDivider.TRACE_QP, 9);
        long remainder = Math.floorDiv(partial, 262144L) + (partial < 0 ? normDivisor : 0);
        claim("quotient register picked by the sign", unit.status(SrtDivider.STATUS_QUOTIENT) == quotient);
        claim("remainder corrected by the sign", unit.status(SrtDivider.STATUS_REMAINDER) == remainder >> shift);
        see(partial < 0, "a negative P_9");
        see(partial == 0, "a P_9 of 0");
        see(partial > 0, "a positive P_9");
    }

    private void claimResult() {
        int quotient = unit.status(SrtDivider.STATUS_QUOTIENT);
        int remainder = unit.status(SrtDivider.STATUS_REMAINDER);
        claim("X = q*V + r", dividend == quotient * divisor + remainder);
        claim("0 <= r < V", remainder >= 0 && remainder < divisor);
        see(remainder == 0, "a remainder of 0");
        see(remainder == divisor - 1, "a remainder of V - 1");
        see(quotient == 0, "a quotient of 0");
        see(quotient == 65535, "a quotient of 65535");
    }

    private void nameEstimatesSeen() {
        for (int line = 0; line < 8; line++) {
            for (int estimate = -64; estimate <= 63; estimate++) {
                see(estimatesSeen[line][estimate + 64], "row " + line + ", estimate " + estimate);
            }
        }
    }

    private void nameDigitsSeen() {
        for (int digit = -2; digit <= 2; digit++) {
            see(digitsSeen[digit + 2], "digit " + digit);
        }
    }

    private void claim(String name, boolean holds) {
        if (!holds) {
            broken.putIfAbsent(name, dividend + " / " + divisor);
        }
    }

    private void see(boolean isHere, String name) {
        if (isHere) {
            seen.add(name);
        }
    }
}
