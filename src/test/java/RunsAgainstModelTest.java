/** Long mixed runs of calls, wrong ones among them, compared with the model after every call. */
public final class RunsAgainstModelTest {
    private static final int RUNS = 250;
    private static final int CALLS = 120;
    private static final int[] EDGES = {
        Integer.MIN_VALUE, -65536, -1, 0, 1, 2, 3, 32767, 32768, 32769, 65534, 65535, 65536, Integer.MAX_VALUE
    };
    private static final int[] COUNTS = {
        Integer.MIN_VALUE, -1, 0, 1, 1, 1, 2, 3, 4, 5, 9, 10, 11, Integer.MAX_VALUE
    };

    // A fixed sequence, so that a fault comes back on every run of the test.
    private static long seed = 20261115L;

    public static void main(String[] args) {
        for (int run = 0; run < RUNS; run++) {
            Twin twin = new Twin("run " + run + ": ", below(20) - 2);
            for (int call = 0; call < CALLS; call++) {
                makeCall(twin);
            }
        }
        Check.end();
    }

    private static void makeCall(Twin twin) {
        int choice = below(40);
        if (choice < 8) {
            twin.load(operand(), operand());
        } else if (choice < 16) {
            twin.start();
        } else if (choice < 30) {
            twin.step(COUNTS[below(COUNTS.length)]);
        } else if (choice < 37) {
            twin.divide(operand(), operand());
        } else if (choice < 39) {
            twin.cancel();
        } else {
            twin.clearHistory();
        }
    }

    private static int operand() {
        int choice = below(10);
        if (choice == 0) {
            return EDGES[below(EDGES.length)];
        }
        // Small numbers too, or nearly every divisor would need no shift.
        return choice < 5 ? below(65536) : below(65536) >> below(16);
    }

    private static int below(int bound) {
        seed = seed * 6364136223846793005L + 1442695040888963407L;
        return (int) ((seed >>> 33) % bound);
    }
}
