import java.util.ArrayList;
import java.util.List;

/** The conditions that load and divide have in common, told once for both. */
final class Refusals {
    /** One of the two methods. */
    interface Method {
        boolean call(SrtDivider unit, int dividend, int divisor);
    }

    private static final int[] BAD_DIVIDENDS = {
        -1, 65536, -65535, -65536, 65537, 131071, Integer.MIN_VALUE, Integer.MIN_VALUE + 1, Integer.MAX_VALUE
    };
    private static final int[] BAD_DIVISORS = {
        0, -1, 65536, -65535, -65536, 65537, 131073, Integer.MIN_VALUE, Integer.MIN_VALUE + 1, Integer.MAX_VALUE
    };
    private static final int[] GOOD_DIVIDENDS = {0, 1, 32767, 32768, 65534, 65535};
    private static final int[] GOOD_DIVISORS = {1, 2, 32767, 32768, 65534, 65535};

    private final String name;
    private final Method method;

    Refusals(String name, Method method) {
        this.name = name;
        this.method = method;
    }

    void whileIterating() {
        for (State state : State.in(SrtDivider.PHASE_ITERATING)) {
            for (int[] operands : pairs(GOOD_DIVIDENDS, GOOD_DIVISORS)) {
                dueRefused(state, operands);
            }
        }
    }

    void dividendOutside() {
        for (State state : State.outside(SrtDivider.PHASE_ITERATING)) {
            for (int[] operands : pairs(BAD_DIVIDENDS, GOOD_DIVISORS)) {
                dueRefused(state, operands);
            }
        }
    }

    void divisorOutside() {
        for (State state : State.outside(SrtDivider.PHASE_ITERATING)) {
            for (int[] operands : pairs(GOOD_DIVIDENDS, BAD_DIVISORS)) {
                dueRefused(state, operands);
            }
        }
    }

    /** Every refusal is the same false, so the order shows in this alone: two or three conditions still refuse. */
    void severalAtOnce() {
        for (State state : State.all()) {
            for (int[] operands : pairs(BAD_DIVIDENDS, BAD_DIVISORS)) {
                dueRefused(state, operands);
            }
        }
        for (State state : State.in(SrtDivider.PHASE_ITERATING)) {
            for (int[] operands : pairs(BAD_DIVIDENDS, GOOD_DIVISORS)) {
                dueRefused(state, operands);
            }
            for (int[] operands : pairs(GOOD_DIVIDENDS, BAD_DIVISORS)) {
                dueRefused(state, operands);
            }
        }
    }

    void changeNothing() {
        int[][] refusedAnywhere = {
            {-1, 7}, {65536, 7}, {Integer.MIN_VALUE, 7}, {Integer.MAX_VALUE, 7},
            {100, 0}, {100, -1}, {100, 65536}, {100, Integer.MIN_VALUE}, {100, Integer.MAX_VALUE}, {-1, 0}
        };
        for (State state : State.all()) {
            for (int[] operands : refusedAnywhere) {
                dueNoChange(state, operands);
            }
        }
        for (State state : State.in(SrtDivider.PHASE_ITERATING)) {
            dueNoChange(state, new int[] {100, 7});
            dueNoChange(state, new int[] {65535, 65535});
        }
    }

    /** Every pair of operands at an edge of their ranges. */
    static List<int[]> edgeOperands() {
        return pairs(GOOD_DIVIDENDS, GOOD_DIVISORS);
    }

    private void dueRefused(State state, int[] operands) {
        Check.due(callOf(operands) + " in " + state.name(),
            method.call(state.make(), operands[0], operands[1]), false);
    }

    private void dueNoChange(State state, int[] operands) {
        Aftermath.changesNothing(callOf(operands), state, unit -> method.call(unit, operands[0], operands[1]));
    }

    private String callOf(int[] operands) {
        return name + "(" + operands[0] + ", " + operands[1] + ")";
    }

    private static List<int[]> pairs(int[] dividends, int[] divisors) {
        List<int[]> pairs = new ArrayList<>();
        for (int dividend : dividends) {
            for (int divisor : divisors) {
                pairs.add(new int[] {dividend, divisor});
            }
        }
        return pairs;
    }
}
