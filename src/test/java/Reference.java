import java.util.ArrayDeque;
import java.util.ArrayList;
import java.util.Deque;
import java.util.HashMap;
import java.util.List;
import java.util.Map;

/**
 * The document's words, slowly: every parking is built on real stacks; least shunts are reckoned back
 * from the ends of all runs, and the first run is then walked forward. It shares no code and no way
 * of searching with the class.
 */
final class Reference {
    private static final int NONE = -1, UNKNOWN = -2, OUTSIDE = -3, NOT = -4, FULL = -5;

    private record Unit(int kind, int wash, int fuel) {
    }

    private record Move(int step, int cost, int leaver, Yard next) {
    }

    private record Yard(List<List<Integer>> tracks, int gone) {
        List<Integer> track(int t) {
            return tracks.get(t);
        }

        int last(int t) {
            return track(t).get(track(t).size() - 1);
        }

        Yard without(int t, int goneThen) {
            List<List<Integer>> then = new ArrayList<>(tracks);
            then.set(t, List.copyOf(track(t).subList(0, track(t).size() - 1)));
            return new Yard(List.copyOf(then), goneThen);
        }

        Yard with(int t, int unit) {
            List<List<Integer>> then = new ArrayList<>(tracks);
            List<Integer> longer = new ArrayList<>(track(t));
            longer.add(unit);
            then.set(t, List.copyOf(longer));
            return new Yard(List.copyOf(then), gone);
        }
    }

    private final List<Unit> units = new ArrayList<>();
    private final List<Boolean> brokens = new ArrayList<>();
    private final int[] lengths = {5, 5, 5};
    private final List<Integer> leaving = new ArrayList<>();
    private Yard yard = emptyYard();
    private int parked = 0;

    private List<List<Integer>> cleanOnes = null;
    private List<Move> firstRun = null;
    private boolean runKnown = false;

    private static Yard emptyYard() {
        return new Yard(List.of(List.of(), List.of(), List.of()), 0);
    }

    private void changed() {
        cleanOnes = null;
        firstRun = null;
        runKnown = false;
    }

    private boolean noUnit(int unit) {
        return unit < 0 || unit >= units.size();
    }

    private static boolean noTrack(int track) {
        return track < 0 || track > 2;
    }

    int unit(int kind, int wash, int fuel) {
        if (kind < 0 || kind > 3 || wash < 0 || wash > 60 || fuel < 0 || fuel > 60) {
            return OUTSIDE;
        }
        if (units.size() == 5) {
            return FULL;
        }
        units.add(new Unit(kind, wash, fuel));
        brokens.add(false);
        changed();
        return units.size() - 1;
    }

    int broken(int unit, boolean is) {
        if (noUnit(unit)) {
            return UNKNOWN;
        }
        changed();
        return brokens.set(unit, is) ? 1 : 0;
    }

    int length(int track, int room) {
        if (noTrack(track)) {
            return UNKNOWN;
        }
        if (room < 1 || room > 5) {
            return OUTSIDE;
        }
        int was = lengths[track];
        lengths[track] = room;
        changed();
        return was;
    }

    int leave(int kind) {
        if (kind < 0 || kind > 3) {
            return OUTSIDE;
        }
        if (leaving.size() == 5) {
            return FULL;
        }
        leaving.add(kind);
        changed();
        return leaving.size();
    }

    int stay() {
        int did = leaving.size();
        leaving.clear();
        changed();
        return did;
    }

    int clean() {
        return cleanParkings().size();
    }

    int parking(int k, int unit) {
        if (noUnit(unit)) {
            return UNKNOWN;
        }
        List<List<Integer>> all = cleanParkings();
        return k < 0 || k >= all.size() ? OUTSIDE : all.get(k).get(unit);
    }

    int narrow() {
        List<List<Integer>> all = cleanParkings();
        for (long tracks = 0; tracks <= 3; tracks++) {
            for (int k = 0; k < all.size(); k++) {
                if (all.get(k).stream().distinct().count() == tracks) {
                    return k;
                }
            }
        }
        return NONE;
    }

    int why() {
        if (!cleanParkings().isEmpty()) {
            return 0;
        }
        for (int kind = 0; kind < 4; kind++) {
            int spare = 0;
            for (int u = 0; u < units.size(); u++) {
                spare += units.get(u).kind() == kind && !brokens.get(u) ? 1 : 0;
            }
            for (int wanted : leaving) {
                spare -= wanted == kind ? 1 : 0;
            }
            if (spare < 0) {
                return 1;
            }
        }
        return units.size() > lengths[0] + lengths[1] + lengths[2] ? 2 : 3;
    }

    int park(int track) {
        if (noTrack(track)) {
            return UNKNOWN;
        }
        if (parked == units.size()) {
            return NOT;
        }
        if (yard.track(track).size() >= lengths[track]) {
            return FULL;
        }
        yard = yard.with(track, parked);
        changed();
        return parked++;
    }

    int clear() {
        int were = parked;
        yard = emptyYard();
        parked = 0;
        changed();
        return were;
    }

    int at(int track, int i) {
        if (noTrack(track)) {
            return UNKNOWN;
        }
        if (i < 0) {
            return OUTSIDE;
        }
        List<Integer> row = yard.track(track);
        return i >= row.size() ? NONE : row.get(row.size() - 1 - i);
    }

    int shunts() {
        List<Move> run = run();
        return run == null ? NONE : run.size() - leaving.size();
    }

    int step(int i) {
        if (i < 0) {
            return OUTSIDE;
        }
        List<Move> run = run();
        return run == null || i >= run.size() ? NONE : run.get(i).step();
    }

    int leaves(int i) {
        if (i < 0) {
            return OUTSIDE;
        }
        List<Integer> row = leavers();
        return row == null || i >= row.size() ? NONE : row.get(i);
    }

    int ready(int unit) {
        return noUnit(unit) ? UNKNOWN : readyBy(numbers()).get(unit);
    }

    int ends() {
        return endOf(bestOrder());
    }

    int best(int i, int what) {
        if (noUnit(i) || what < 0 || what > 1) {
            return OUTSIDE;
        }
        List<Integer> order = bestOrder();
        return what == 0 ? order.get(i) : readyBy(order).get(order.get(i));
    }

    int late(int way, int d) {
        if (way < 0 || way > 1 || d < 0 || d > 1000) {
            return OUTSIDE;
        }
        List<Integer> row = leavers();
        if (row == null) {
            return NOT;
        }
        Map<Integer, Integer> ready = readyBy(way == 0 ? numbers() : bestOrder());
        int bits = 0;
        for (int i = 0; i < row.size(); i++) {
            bits += ready.get(row.get(i)) > d + 10 * i ? 1 << row.get(i) : 0;
        }
        return bits;
    }

    int count(int what) {
        int[] counts = {units.size(), leaving.size(), parked, (int) brokens.stream().filter(b -> b).count()};
        return what < 0 || what > 3 ? OUTSIDE : counts[what];
    }

    // ---- parkings

    private List<List<Integer>> cleanParkings() {
        if (cleanOnes == null) {
            cleanOnes = new ArrayList<>();
            addClean(new ArrayList<>(), emptyYard());
        }
        return cleanOnes;
    }

    private void addClean(List<Integer> row, Yard stands) {
        if (row.size() == units.size()) {
            for (int t = 0; t < 3; t++) {
                if (stands.track(t).size() > lengths[t]) {
                    return;
                }
            }
            if (allGo(stands)) {
                cleanOnes.add(List.copyOf(row));
            }
            return;
        }
        for (int t = 0; t < 3; t++) {
            Yard then = stands.with(t, row.size());
            row.add(t);
            addClean(row, then);
            row.remove(row.size() - 1);
        }
    }

    private boolean allGo(Yard stands) {
        if (stands.gone() == leaving.size()) {
            return true;
        }
        for (Move going : goings(stands)) {
            if (allGo(going.next())) {
                return true;
            }
        }
        return false;
    }

    // ---- runs

    private List<Move> goings(Yard from) {
        List<Move> moves = new ArrayList<>();
        if (from.gone() == leaving.size()) {
            return moves;
        }
        for (int t = 0; t < 3; t++) {
            if (!from.track(t).isEmpty()) {
                int unit = from.last(t);
                if (!brokens.get(unit) && units.get(unit).kind() == leaving.get(from.gone())) {
                    moves.add(new Move(t, 0, unit, from.without(t, from.gone() + 1)));
                }
            }
        }
        return moves;
    }

    private List<Move> moves(Yard from) {
        List<Move> moves = goings(from);
        for (int t = 0; t < 3; t++) {
            for (int to = 0; to < 3; to++) {
                if (t != to && !from.track(t).isEmpty() && from.track(to).size() < lengths[to]) {
                    Yard next = from.without(t, from.gone()).with(to, from.last(t));
                    moves.add(new Move(10 + 3 * t + to, 1, NONE, next));
                }
            }
        }
        return moves;
    }

    /** The first run's moves, or null. */
    private List<Move> run() {
        if (!runKnown) {
            runKnown = true;
            firstRun = findRun();
        }
        return firstRun;
    }

    private List<Move> findRun() {
        Map<Yard, List<Move>> onward = new HashMap<>();
        Map<Yard, List<Yard>> backByGoing = new HashMap<>();
        Map<Yard, List<Yard>> backByShunt = new HashMap<>();
        reach(onward, backByGoing, backByShunt);
        Map<Yard, Integer> need = shuntsNeeded(onward, backByGoing, backByShunt);
        if (!need.containsKey(yard)) {
            return null;
        }
        List<Move> run = new ArrayList<>();
        Yard here = yard;
        while (here.gone() < leaving.size()) {
            for (Move move : onward.get(here)) {
                Integer then = need.get(move.next());
                if (then != null && then + move.cost() == need.get(here)) {
                    run.add(move);
                    here = move.next();
                    break;
                }
            }
        }
        return run;
    }

    private void reach(Map<Yard, List<Move>> onward, Map<Yard, List<Yard>> byGoing, Map<Yard, List<Yard>> byShunt) {
        Deque<Yard> open = new ArrayDeque<>();
        open.add(yard);
        onward.put(yard, moves(yard));
        while (!open.isEmpty()) {
            Yard here = open.pop();
            for (Move move : onward.get(here)) {
                (move.cost() == 0 ? byGoing : byShunt)
                    .computeIfAbsent(move.next(), y -> new ArrayList<>()).add(here);
                if (!onward.containsKey(move.next())) {
                    onward.put(move.next(), moves(move.next()));
                    open.push(move.next());
                }
            }
        }
    }

    /** From the ends of runs backwards, a level for each shunt more; goings off cost none. */
    private Map<Yard, Integer> shuntsNeeded(Map<Yard, List<Move>> onward, Map<Yard, List<Yard>> byGoing,
            Map<Yard, List<Yard>> byShunt) {
        Map<Yard, Integer> need = new HashMap<>();
        List<Yard> level = new ArrayList<>();
        for (Yard one : onward.keySet()) {
            if (one.gone() == leaving.size()) {
                level.add(one);
            }
        }
        for (int cost = 0; !level.isEmpty(); cost++) {
            Deque<Yard> open = new ArrayDeque<>(level);
            level = new ArrayList<>();
            while (!open.isEmpty()) {
                Yard here = open.pop();
                if (need.putIfAbsent(here, cost) == null) {
                    open.addAll(byGoing.getOrDefault(here, List.of()));
                    level.addAll(byShunt.getOrDefault(here, List.of()));
                }
            }
        }
        return need;
    }

    private List<Integer> leavers() {
        List<Move> run = run();
        if (run == null) {
            return null;
        }
        List<Integer> row = new ArrayList<>();
        for (Move move : run) {
            if (move.cost() == 0) {
                row.add(move.leaver());
            }
        }
        return row;
    }

    // ---- washing

    private List<Integer> numbers() {
        List<Integer> order = new ArrayList<>();
        for (int u = 0; u < units.size(); u++) {
            order.add(u);
        }
        return order;
    }

    private List<Integer> bestOrder() {
        List<List<Integer>> orders = new ArrayList<>();
        addOrders(new ArrayList<>(), orders);
        List<Integer> best = orders.get(0);
        for (List<Integer> order : orders) {
            if (endOf(order) < endOf(best)) {
                best = order;
            }
        }
        return best;
    }

    private void addOrders(List<Integer> begun, List<List<Integer>> orders) {
        if (begun.size() == units.size()) {
            orders.add(List.copyOf(begun));
        }
        for (int u = 0; u < units.size(); u++) {
            if (!begun.contains(u)) {
                begun.add(u);
                addOrders(begun, orders);
                begun.remove(begun.size() - 1);
            }
        }
    }

    private Map<Integer, Integer> readyBy(List<Integer> order) {
        Map<Integer, Integer> ready = new HashMap<>();
        int washed = 0;
        int fuelled = 0;
        for (int u : order) {
            washed += units.get(u).wash();
            int begins = washed > fuelled ? washed : fuelled;
            fuelled = begins + units.get(u).fuel();
            ready.put(u, fuelled);
        }
        return ready;
    }

    private int endOf(List<Integer> order) {
        return order.isEmpty() ? 0 : readyBy(order).get(order.get(order.size() - 1));
    }
}
