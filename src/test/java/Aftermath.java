import java.util.List;
import java.util.function.Consumer;

/**
 * What a unit answers later on. A call that changes nothing must leave the
 * hidden registers too as they were, which shows only in the calls after it.
 */
final class Aftermath {
    private static final List<List<Consumer<SrtDivider>>> FUTURES = List.of(
        List.of(unit -> unit.step(1), unit -> unit.step(1), unit -> unit.step(3), unit -> unit.step(10),
            SrtDivider::start),
        List.of(SrtDivider::start, unit -> unit.step(5), SrtDivider::cancel, SrtDivider::start,
            unit -> unit.step(Integer.MAX_VALUE)),
        List.of(SrtDivider::cancel, unit -> unit.load(77, 65535), SrtDivider::start, unit -> unit.step(10)),
        List.of(unit -> unit.divide(65535, 1), unit -> unit.divide(1, 65535), SrtDivider::clearHistory,
            unit -> unit.divide(12345, 67), unit -> unit.step(9)));

    private Aftermath() {
    }

    static void changesNothing(String call, State state, Consumer<SrtDivider> caller) {
        for (List<Consumer<SrtDivider>> future : FUTURES) {
            SrtDivider called = state.make();
            SrtDivider spared = state.make();
            caller.accept(called);
            String name = call + " in " + state.name();
            Check.unchanged(name, Snapshot.of(spared), called);
            for (Consumer<SrtDivider> later : future) {
                later.accept(called);
                later.accept(spared);
                Check.unchanged(name + " and later calls", Snapshot.of(spared), called);
            }
        }
    }
}
