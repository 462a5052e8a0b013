/** "Normalisation" under Terms, as start does it. */
public final class TermsNormalisationTest {
    private static final int[] DIVIDENDS = {0, 1, 2, 21845, 32767, 32768, 65534, 65535};

    public static void main(String[] args) {
        Check.sentence("s = the least s >= 0 with (V << s) >= 32768 (so 0..15)",
            TermsNormalisationTest::findsLeastShift);
        Check.sentence("D = V << s (32768..65535), the normalised divisor", TermsNormalisationTest::shiftsDivisor);
        Check.sentence("N = X << s, computed as a long (0 .. 2^31 - 1)", TermsNormalisationTest::shiftsDividend);
        Check.sentence("row = (D >> 12) - 8 (0..7), the selection table row", TermsNormalisationTest::findsEveryRow);
        Check.sentence("D, N and row of every divisor", TermsNormalisationTest::normalisesEveryDivisor);
        Check.end();
    }

    private static void findsLeastShift() {
        dueShift(1, 15);
        for (int shift = 0; shift <= 14; shift++) {
            int least = 32768 >> shift;
            dueShift(least, shift);
            dueShift(least + 1, shift);
            dueShift(2 * least - 1, shift);
            dueShift(least - 1, shift + 1);
        }
    }

    private static void dueShift(int divisor, int shift) {
        Check.due("s of " + divisor, startedWith(1, divisor).status(SrtDivider.STATUS_SHIFT), shift);
    }

    private static void shiftsDivisor() {
        dueNormDivisor(1, 32768);
        dueNormDivisor(2, 32768);
        dueNormDivisor(3, 49152);
        dueNormDivisor(100, 51200);
        dueNormDivisor(32767, 65534);
        dueNormDivisor(32768, 32768);
        dueNormDivisor(32769, 32769);
        dueNormDivisor(65535, 65535);
    }

    private static void dueNormDivisor(int divisor, int wanted) {
        Check.due("D of " + divisor, startedWith(1, divisor).status(SrtDivider.STATUS_NORM_DIVISOR), wanted);
    }

    private static void shiftsDividend() {
        for (int dividend : DIVIDENDS) {
            for (int shift = 0; shift <= 15; shift++) {
                long wanted = dividend * (1L << shift);
                Check.due("N of " + dividend + " shifted by " + shift,
                    startedWith(dividend, 32768 >> shift).partialRemainder(0), wanted);
            }
        }
        Check.due("the greatest N", startedWith(65535, 1).partialRemainder(0), 2147450880L);
        Check.due("the least N", startedWith(0, 1).partialRemainder(0), 0L);
    }

    private static void findsEveryRow() {
        for (int row = 0; row <= 7; row++) {
            int least = 32768 + row * 4096;
            dueRow(least, row);
            dueRow(least + 4095, row);
            dueRow(8 + row, row);
        }
        dueRow(1, 0);
    }

    private static void dueRow(int divisor, int row) {
        Check.due("row of " + divisor, startedWith(1, divisor).status(SrtDivider.STATUS_ROW), row);
    }

    private static void normalisesEveryDivisor() {
        SrtDivider unit = new SrtDivider(1);
        for (int divisor = 1; divisor <= SrtDivider.MAX_OPERAND; divisor++) {
            int dividend = DIVIDENDS[divisor % DIVIDENDS.length];
            unit.load(dividend, divisor);
            unit.start();
            int normDivisor = divisor;
            long normDividend = dividend;
            while (normDivisor < 32768) {
                normDivisor += normDivisor;
                normDividend += normDividend;
            }
            Check.due("D of " + divisor, unit.status(SrtDivider.STATUS_NORM_DIVISOR), normDivisor);
            Check.due("N of " + dividend + " / " + divisor, unit.partialRemainder(0), normDividend);
            Check.due("row of " + divisor, unit.status(SrtDivider.STATUS_ROW), normDivisor / 4096 - 8);
            unit.cancel();
        }
    }

    private static SrtDivider startedWith(int dividend, int divisor) {
        return Units.iterating(0, dividend, divisor, 0);
    }
}
