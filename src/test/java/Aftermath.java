import java.util.List;
import java.util.function.Consumer;
import java.util.function.Supplier;

/**
 * What a unit answers later on. The hidden registers can't be asked for, so
 * whether two units are alike shows only in the calls after.
 */
final class Aftermath {
    /** A later call; a boolean answer counts 1 or 0. */
    interface Call {
        long on(SrtDivider unit);
    }

    private static final List<List<Call>> FUTURES = List.of(
        List.of(step(1), step(1), step(3), step(10), start()),
        List.of(start(), step(5), cancel(), start(), step(Integer.MAX_VALUE), cancel()),
        List.of(cancel(), load(77, 65535), start(), step(10), load(65535, 1)),
        List.of(load(65536, 1), step(9), divide(50000, 3), start(), step(1)),
        List.of(divide(65535, 1), divide(1, 65535), clearHistory(), divide(12345, 67), step(9)),
        List.of(clearHistory(), step(10), start(), step(10), divide(0, 1), divide(100, 0)));

    private Aftermath() {
    }

    static void changesNothing(String call, State state, Consumer<SrtDivider> caller) {
        areAlike(call + " in " + state.name(), state::make, () -> {
            SrtDivider unit = state.make();
            caller.accept(unit);
            return unit;
        });
    }

    /** Both units answer alike now and after each of the later calls, and so do these calls. */
    static void areAlike(String name, Supplier<SrtDivider> wanted, Supplier<SrtDivider> got) {
        for (List<Call> future : FUTURES) {
            SrtDivider model = wanted.get();
            SrtDivider unit = got.get();
            Check.unchanged(name, Snapshot.of(model), unit);
            for (int i = 0; i < future.size(); i++) {
                String later = name + " and " + (i + 1) + " later calls";
                long due = future.get(i).on(model);
                Check.due(later + ", the last of them", future.get(i).on(unit), due);
                Check.unchanged(later, Snapshot.of(model), unit);
            }
        }
    }

    static List<List<Call>> futures() {
        return FUTURES;
    }

    private static Call load(int dividend, int divisor) {
        return unit -> unit.load(dividend, divisor) ? 1 : 0;
    }

    private static Call start() {
        return unit -> unit.start() ? 1 : 0;
    }

    private static Call step(int count) {
        return unit -> unit.step(count);
    }

    private static Call divide(int dividend, int divisor) {
        return unit -> unit.divide(dividend, divisor) ? 1 : 0;
    }

    private static Call cancel() {
        return unit -> unit.cancel() ? 1 : 0;
    }

    private static Call clearHistory() {
        return unit -> {
            unit.clearHistory();
            return 0;
        };
    }
}
