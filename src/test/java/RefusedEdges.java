import java.util.List;
import java.util.function.Supplier;
import java.util.function.ToIntFunction;

/** Every call that is refused, on nights of several states: its answer, and that nothing changes by it. */
final class RefusedEdges {
    private static final int UNKNOWN = -2, OUTSIDE = -3, NOT = -4, FULL = -5;
    private static final int LEAST = Integer.MIN_VALUE, MOST = Integer.MAX_VALUE;

    private record Call(String name, int due, ToIntFunction<DepotNight> on) {
    }

    private final Checks checks;

    RefusedEdges(Checks checks) {
        this.checks = checks;
    }

    void all() {
        checks.sentence(0, "Refused, and nothing changes: UNKNOWN (no such UNIT, TRACK), OUTSIDE (another number is not"
            + " as told), NOT (not now: as told), FULL: the first of these that fits.");
        List<Supplier<DepotNight>> states = List.of(
            DepotNight::new, RefusedEdges::some, RefusedEdges::without, RefusedEdges::full);
        for (Supplier<DepotNight> state : states) {
            refused(state, unknown());
            refused(state, outside());
            for (int wrong : new int[] {-1, LEAST, MOST}) {
                refused(state, wrongEverywhere(wrong));
            }
        }
        refused(DepotNight::new, onNew());
        refused(RefusedEdges::some, onSome());
        refused(RefusedEdges::without, List.of(
            new Call("late(0, 0)", NOT, x -> x.late(0, 0)), new Call("late(1, 1000)", NOT, x -> x.late(1, 1000))));
        refused(RefusedEdges::full, onFull());
    }

    /** Two nights of one state, of which one is asked what is refused: both answer alike behind that. */
    private void refused(Supplier<DepotNight> state, List<Call> calls) {
        for (Call call : calls) {
            DepotNight asked = state.get();
            checks.due(call.name(), call.on().applyAsInt(asked), call.due());
            checks.due(call.name() + " again", call.on().applyAsInt(asked), call.due());
            checks.holds("nothing changes by " + call.name(), Nights.look(asked).equals(Nights.look(state.get())));
            checks.due(call.name() + " behind a look", call.on().applyAsInt(asked), call.due());
        }
    }

    private static DepotNight some() {
        DepotNight x = new DepotNight();
        x.unit(0, 10, 20);
        x.unit(1, 25, 5);
        x.unit(0, 20, 0);
        x.broken(1, true);
        Nights.lengths(x, 2, 1, 3);
        x.leave(0);
        x.park(1);
        return x;
    }

    /** Without a run and without a clean parking. */
    private static DepotNight without() {
        DepotNight x = some();
        x.leave(3);
        return x;
    }

    private static DepotNight full() {
        DepotNight x = new DepotNight();
        x.unit(0, 10, 20);
        x.unit(1, 60, 60);
        x.unit(2, 20, 0);
        x.unit(3, 0, 30);
        x.unit(0, 15, 10);
        Nights.lengths(x, 2, 1, 2);
        Nights.parkAll(x, 0, 0, 1, 2, 2);
        Nights.leaveAll(x, 0, 3, 2, 0, 1);
        return x;
    }

    private static List<Call> unknown() {
        return List.of(
            new Call("broken(5, true)", UNKNOWN, x -> x.broken(5, true)),
            new Call("broken(5, false)", UNKNOWN, x -> x.broken(5, false)),
            new Call("length(3, 1)", UNKNOWN, x -> x.length(3, 1)),
            new Call("length(3, 6)", UNKNOWN, x -> x.length(3, 6)),
            new Call("parking(0, 5)", UNKNOWN, x -> x.parking(0, 5)),
            new Call("parking(243, 5)", UNKNOWN, x -> x.parking(243, 5)),
            new Call("park(3)", UNKNOWN, x -> x.park(3)),
            new Call("at(3, 0)", UNKNOWN, x -> x.at(3, 0)),
            new Call("at(3, -1)", UNKNOWN, x -> x.at(3, -1)),
            new Call("ready(5)", UNKNOWN, x -> x.ready(5)));
    }

    private static List<Call> outside() {
        return List.of(
            new Call("unit(4, 0, 0)", OUTSIDE, x -> x.unit(4, 0, 0)),
            new Call("unit(0, 61, 0)", OUTSIDE, x -> x.unit(0, 61, 0)),
            new Call("unit(0, 0, 61)", OUTSIDE, x -> x.unit(0, 0, 61)),
            new Call("length(0, 0)", OUTSIDE, x -> x.length(0, 0)),
            new Call("length(2, 6)", OUTSIDE, x -> x.length(2, 6)),
            new Call("leave(4)", OUTSIDE, x -> x.leave(4)),
            new Call("best(5, 0)", OUTSIDE, x -> x.best(5, 0)),
            new Call("best(0, 2)", OUTSIDE, x -> x.best(0, 2)),
            new Call("late(2, 0)", OUTSIDE, x -> x.late(2, 0)),
            new Call("late(0, 1001)", OUTSIDE, x -> x.late(0, 1001)),
            new Call("count(4)", OUTSIDE, x -> x.count(4)));
    }

    private static List<Call> wrongEverywhere(int w) {
        String name = w == LEAST ? "LEAST" : w == MOST ? "MOST" : "-1";
        return List.of(
            new Call("unit: kind " + name, OUTSIDE, x -> x.unit(w, 0, 0)),
            new Call("unit: wash " + name, OUTSIDE, x -> x.unit(0, w, 0)),
            new Call("unit: fuel " + name, OUTSIDE, x -> x.unit(0, 0, w)),
            new Call("broken: unit " + name, UNKNOWN, x -> x.broken(w, true)),
            new Call("length: track " + name, UNKNOWN, x -> x.length(w, w)),
            new Call("length: units " + name, OUTSIDE, x -> x.length(1, w)),
            new Call("leave: kind " + name, OUTSIDE, x -> x.leave(w)),
            new Call("parking: unit " + name, UNKNOWN, x -> x.parking(w, w)),
            new Call("park: track " + name, UNKNOWN, x -> x.park(w)),
            new Call("at: track " + name, UNKNOWN, x -> x.at(w, w)),
            new Call("ready: unit " + name, UNKNOWN, x -> x.ready(w)),
            new Call("best: i " + name, OUTSIDE, x -> x.best(w, 0)),
            new Call("best: what " + name, OUTSIDE, x -> x.best(0, w)),
            new Call("late: way " + name, OUTSIDE, x -> x.late(w, 0)),
            new Call("late: d " + name, OUTSIDE, x -> x.late(0, w)),
            new Call("count: what " + name, OUTSIDE, x -> x.count(w)));
    }

    private static List<Call> onNew() {
        return List.of(
            new Call("broken(0, true)", UNKNOWN, x -> x.broken(0, true)),
            new Call("parking(0, 0)", UNKNOWN, x -> x.parking(0, 0)),
            new Call("park(0)", NOT, x -> x.park(0)),
            new Call("ready(0)", UNKNOWN, x -> x.ready(0)),
            new Call("best(0, 0)", OUTSIDE, x -> x.best(0, 0)));
    }

    private static List<Call> onSome() {
        return List.of(
            new Call("broken(3, true)", UNKNOWN, x -> x.broken(3, true)),
            new Call("parking(27, 0)", OUTSIDE, x -> x.parking(27, 0)),
            new Call("parking(-1, 0)", OUTSIDE, x -> x.parking(-1, 0)),
            new Call("park(1), of one", FULL, x -> x.park(1)),
            new Call("at(1, -1)", OUTSIDE, x -> x.at(1, -1)),
            new Call("step(-1)", OUTSIDE, x -> x.step(-1)),
            new Call("leaves(-1)", OUTSIDE, x -> x.leaves(-1)),
            new Call("ready(3)", UNKNOWN, x -> x.ready(3)),
            new Call("best(3, 0)", OUTSIDE, x -> x.best(3, 0)));
    }

    private static List<Call> onFull() {
        return List.of(
            new Call("unit(1, 30, 30)", FULL, x -> x.unit(1, 30, 30)),
            new Call("unit(0, 0, 0)", FULL, x -> x.unit(0, 0, 0)),
            new Call("leave(1)", FULL, x -> x.leave(1)),
            new Call("leave(3)", FULL, x -> x.leave(3)),
            new Call("park(0), all are parked", NOT, x -> x.park(0)),
            new Call("parking(243, 0)", OUTSIDE, x -> x.parking(243, 0)));
    }
}
