import java.util.ArrayList;
import java.util.List;

/** "Hidden registers", "Selection table", "START", "Iteration cycle j" and "Correction cycle" under Terms. */
public final class TermsCyclesTest {
    private static final String[] EVERY_DIGIT = {"digit -2", "digit -1", "digit 0", "digit 1", "digit 2"};
    private static final String[] EVERY_SIGN = {"a negative P_9", "a P_9 of 0", "a positive P_9"};

    public static void main(String[] args) {
        Sweep sweep = new Sweep();
        holdsOfRegisters(sweep);
        holdsOfIteration(sweep);
        holdsOfCorrection(sweep);
        Check.end();
    }

    private static void holdsOfRegisters(Sweep sweep) {
        Check.sentence("The partial remainder after cycle j is P_j = S + C",
            () -> sweep.dueEverywhere("partial remainder is S + C"));
        Check.sentence("P_j = (N - QP_j * D * 4^(9-j)) * 4^j exactly",
            () -> sweep.dueEverywhere("meaning of the partial remainder"));
        Check.sentence("START: S = N; C = 0; QP = 0; QM = -1; record QP_0 = 0, QM_0 = -1, P_0 = N", () -> {
            sweep.dueEverywhere("s, D and row of the operands");
            sweep.dueEverywhere("QP_0 = 0, QM_0 = -1, P_0 = N");
        });
    }

    private static void holdsOfIteration(Sweep sweep) {
        Check.sentence("a = S << 2; b = C << 2; e = (a >> 30) + (b >> 30); e7 = (int)(e & 127)",
            () -> sweep.dueEverywhere("estimate from both shifted words"));
        Check.sentence("if e7 >= 64 then e7 = e7 - 128",
            () -> sweep.due("estimate within -64..63", "a negative estimate"));
        Check.sentence("2 if e >= m(2); else 1 if e >= m(1); else 0 if e >= m(0); else -1 if e >= m(-1); else -2",
            () -> sweep.due("digit chosen by the table", everyThreshold()));
        Check.sentence("c = ((long)(-q * D)) << 18; S = a ^ b ^ c; C = ((a & b) | (a & c) | (b & c)) << 1", () -> {
            sweep.due("estimate from both shifted words", EVERY_DIGIT);
            sweep.due("partial remainder is S + C", EVERY_DIGIT);
        });
        Check.sentence("new QP = 4*QP + q if q >= 0, else 4*QM + 4 + q",
            () -> sweep.due("QP with the digit appended", EVERY_DIGIT));
        Check.sentence("new QM = 4*QP + q - 1 if q > 0, else 4*QM + 3 + q",
            () -> sweep.due("QM with the digit appended", EVERY_DIGIT));
    }

    private static void holdsOfCorrection(Sweep sweep) {
        Check.sentence("If P < 0: Qf = QM_9; else Qf = QP_9",
            () -> sweep.due("quotient register picked by the sign", EVERY_SIGN));
        Check.sentence("If P < 0: R = (P >> 18) + D; else R = P >> 18. The final remainder is R >> s",
            () -> sweep.due("remainder corrected by the sign", EVERY_SIGN));
        Check.sentence("the record (X, V, final quotient, final remainder) is pushed into the history",
            () -> sweep.dueEverywhere("the division recorded"));
    }

    /** Each entry of the table and the estimate one below it. */
    private static String[] everyThreshold() {
        List<String> cases = new ArrayList<>();
        for (int row = 0; row <= 7; row++) {
            for (int digit = -1; digit <= 2; digit++) {
                int threshold = SelectionTable.threshold(row, digit);
                cases.add("row " + row + ", estimate " + threshold);
                cases.add("row " + row + ", estimate " + (threshold - 1));
            }
        }
        return cases.toArray(new String[0]);
    }
}
