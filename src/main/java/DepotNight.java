import java.util.Arrays;

/** A depot at night: parking, shunting, washing and fuelling of at most five units. */
public final class DepotNight {
    public static final int NONE = -1, UNKNOWN = -2, OUTSIDE = -3, NOT = -4, FULL = -5;

    private static final int MOST_UNITS = 5;
    private static final int MOST_LEAVING = 5;
    private static final int KINDS = 4;
    private static final int TRACKS = 3;
    private static final int LONGEST_TRACK = 5;
    private static final int LONGEST_WORK = 60;
    private static final int LATEST_START = 1000;
    private static final int MINUTES_BETWEEN = 10;
    private static final int FIRST_SHUNT = 10;

    private final Depot depot;
    private final Parkings parkings;
    private final Runs runs;
    private final Washing washing;

    public DepotNight() {
        depot = new Depot();
        parkings = new Parkings(depot);
        runs = new Runs(depot);
        washing = new Washing(depot);
    }

    public int unit(int kind, int wash, int fuel) {
        if (!isKind(kind) || !isWork(wash) || !isWork(fuel)) {
            return OUTSIDE;
        }
        if (depot.units >= MOST_UNITS) {
            return FULL;
        }
        return depot.addUnit(kind, wash, fuel);
    }

    public int broken(int unit, boolean is) {
        if (!depot.hasUnit(unit)) {
            return UNKNOWN;
        }
        return depot.setBroken(unit, is) ? 1 : 0;
    }

    public int length(int track, int units) {
        if (!isTrack(track)) {
            return UNKNOWN;
        }
        if (units < 1 || units > LONGEST_TRACK) {
            return OUTSIDE;
        }
        return depot.setLength(track, units);
    }

    public int leave(int kind) {
        if (!isKind(kind)) {
            return OUTSIDE;
        }
        if (depot.leaving >= MOST_LEAVING) {
            return FULL;
        }
        return depot.addWanted(kind);
    }

    public int stay() {
        return depot.dropWanted();
    }

    public int clean() {
        parkings.refresh();
        return parkings.found;
    }

    public int parking(int k, int unit) {
        if (!depot.hasUnit(unit)) {
            return UNKNOWN;
        }
        parkings.refresh();
        if (k < 0 || k >= parkings.found) {
            return OUTSIDE;
        }
        return parkings.trackIn(k, unit);
    }

    public int narrow() {
        parkings.refresh();
        return parkings.narrowest;
    }

    public int why() {
        parkings.refresh();
        if (parkings.found > 0) {
            return 0;
        }
        if (!depot.hasEnough(depot.units)) {
            return 1;
        }
        return depot.units > depot.room() ? 2 : 3;
    }

    public int park(int track) {
        if (!isTrack(track)) {
            return UNKNOWN;
        }
        if (depot.parked >= depot.units) {
            return NOT;
        }
        if (depot.standingOn(track) >= depot.lengths[track]) {
            return FULL;
        }
        return depot.parkNext(track);
    }

    public int clear() {
        return depot.unparkAll();
    }

    public int at(int track, int i) {
        if (!isTrack(track)) {
            return UNKNOWN;
        }
        if (i < 0) {
            return OUTSIDE;
        }
        return depot.fromLast(track, i);
    }

    public int shunts() {
        runs.refresh();
        return runs.leastShunts;
    }

    public int step(int i) {
        if (i < 0) {
            return OUTSIDE;
        }
        runs.refresh();
        return runs.stepNumber(i);
    }

    public int leaves(int i) {
        if (i < 0) {
            return OUTSIDE;
        }
        runs.refresh();
        return runs.leaver(i);
    }

    public int ready(int unit) {
        if (!depot.hasUnit(unit)) {
            return UNKNOWN;
        }
        washing.refresh();
        return washing.readyByNumber[unit];
    }

    public int ends() {
        washing.refresh();
        return washing.soonestEnd;
    }

    public int best(int i, int what) {
        if (i < 0 || i >= depot.units || what < 0 || what > 1) {
            return OUTSIDE;
        }
        washing.refresh();
        int unit = washing.bestOrder[i];
        return what == 0 ? unit : washing.readyByBest[unit];
    }

    public int late(int way, int d) {
        if (way < 0 || way > 1 || d < 0 || d > LATEST_START) {
            return OUTSIDE;
        }
        runs.refresh();
        if (runs.leastShunts == NONE) {
            return NOT;
        }
        washing.refresh();
        return lateBits(way == 0 ? washing.readyByNumber : washing.readyByBest, d);
    }

    public int count(int what) {
        switch (what) {
            case 0:
                return depot.units;
            case 1:
                return depot.leaving;
            case 2:
                return depot.parked;
            case 3:
                return depot.brokenUnits();
            default:
                return OUTSIDE;
        }
    }

    private int lateBits(int[] readyOf, int start) {
        int bits = 0;
        for (int i = 0; i < depot.leaving; i++) {
            int unit = runs.leaver(i);
            if (depot.hasUnit(unit) && readyOf[unit] > start + MINUTES_BETWEEN * i) {
                bits |= 1 << unit;
            }
        }
        return bits;
    }

    private static boolean isKind(int kind) {
        return kind >= 0 && kind < KINDS;
    }

    private static boolean isTrack(int track) {
        return track >= 0 && track < TRACKS;
    }

    private static boolean isWork(int minutes) {
        return minutes >= 0 && minutes <= LONGEST_WORK;
    }

    /** What has been told. Its callers have tested every number that they hand over. */
    private static final class Depot {
        final int[] kinds = new int[MOST_UNITS];
        final int[] washes = new int[MOST_UNITS];
        final int[] fuels = new int[MOST_UNITS];
        final boolean[] isBroken = new boolean[MOST_UNITS];
        int units = 0;

        final int[] lengths = new int[TRACKS];
        final int[] wanted = new int[MOST_LEAVING];
        int leaving = 0;

        /** Units are parked by their numbers, so each unit's track tells the whole yard. */
        final int[] trackOf = new int[MOST_UNITS];
        int parked = 0;

        /** Counts the changes, so that what was worked out before one is not answered after it. */
        int changes = 0;

        Depot() {
            Arrays.fill(lengths, LONGEST_TRACK);
        }

        boolean hasUnit(int unit) {
            return unit >= 0 && unit < units;
        }

        int addUnit(int kind, int wash, int fuel) {
            int unit = units;
            kinds[unit] = kind;
            washes[unit] = wash;
            fuels[unit] = fuel;
            units++;
            changes++;
            return unit;
        }

        boolean setBroken(int unit, boolean is) {
            boolean before = isBroken[unit];
            isBroken[unit] = is;
            changes++;
            return before;
        }

        int setLength(int track, int room) {
            int before = lengths[track];
            lengths[track] = room;
            changes++;
            return before;
        }

        int addWanted(int kind) {
            wanted[leaving] = kind;
            leaving++;
            changes++;
            return leaving;
        }

        int dropWanted() {
            int before = leaving;
            leaving = 0;
            changes++;
            return before;
        }

        int parkNext(int track) {
            int unit = parked;
            trackOf[unit] = track;
            parked++;
            changes++;
            return unit;
        }

        int unparkAll() {
            int before = parked;
            parked = 0;
            changes++;
            return before;
        }

        int standingOn(int track) {
            int standing = 0;
            for (int unit = 0; unit < parked; unit++) {
                if (trackOf[unit] == track) {
                    standing++;
                }
            }
            return standing;
        }

        int fromLast(int track, int place) {
            int behind = 0;
            for (int unit = parked - 1; unit >= 0; unit--) {
                if (trackOf[unit] == track) {
                    if (behind == place) {
                        return unit;
                    }
                    behind++;
                }
            }
            return NONE;
        }

        int brokenUnits() {
            int found = 0;
            for (int unit = 0; unit < units; unit++) {
                if (isBroken[unit]) {
                    found++;
                }
            }
            return found;
        }

        int room() {
            int sum = 0;
            for (int track = 0; track < TRACKS; track++) {
                sum += lengths[track];
            }
            return sum;
        }

        boolean canServe(int unit, int kind) {
            return kinds[unit] == kind && !isBroken[unit];
        }

        /** Whether the units below the bound could serve every kind that is wanted, if none were blocked. */
        boolean hasEnough(int bound) {
            for (int kind = 0; kind < KINDS; kind++) {
                if (timesWanted(kind) > serving(kind, bound)) {
                    return false;
                }
            }
            return true;
        }

        private int timesWanted(int kind) {
            int times = 0;
            for (int i = 0; i < leaving; i++) {
                if (wanted[i] == kind) {
                    times++;
                }
            }
            return times;
        }

        private int serving(int kind, int bound) {
            int found = 0;
            for (int unit = 0; unit < bound; unit++) {
                if (canServe(unit, kind)) {
                    found++;
                }
            }
            return found;
        }
    }

    /** The clean parkings, in their order, worked out anew only behind a change. */
    private static final class Parkings {
        private static final int MOST_PARKINGS = 243;
        private static final int TRACK_BITS = 2;
        private static final int TRACK_MASK = 3;

        private final Depot depot;
        private final int[] packed = new int[MOST_PARKINGS];
        private final int[] row = new int[MOST_UNITS];
        int found = 0;
        int narrowest = NONE;
        private int knownAt = -1;

        Parkings(Depot depot) {
            this.depot = depot;
        }

        int trackIn(int k, int unit) {
            return (packed[k] >>> (TRACK_BITS * unit)) & TRACK_MASK;
        }

        void refresh() {
            if (knownAt == depot.changes) {
                return;
            }
            knownAt = depot.changes;
            found = 0;
            if (depot.hasEnough(depot.units)) {
                collect();
            }
            narrowest = findNarrowest();
        }

        private void collect() {
            Arrays.fill(row, 0);
            boolean more = true;
            for (int tried = 0; more && tried < MOST_PARKINGS; tried++) {
                if (rowFits() && canAllGo(0, 0)) {
                    packed[found] = packRow();
                    found++;
                }
                more = moveOn();
            }
        }

        /** Counts the row up with the last unit as its lowest digit, which is the order of parkings. */
        private boolean moveOn() {
            for (int unit = depot.units - 1; unit >= 0; unit--) {
                if (row[unit] < TRACKS - 1) {
                    row[unit]++;
                    return true;
                }
                row[unit] = 0;
            }
            return false;
        }

        private boolean rowFits() {
            for (int track = 0; track < TRACKS; track++) {
                int standing = 0;
                for (int unit = 0; unit < depot.units; unit++) {
                    if (row[unit] == track) {
                        standing++;
                    }
                }
                if (standing > depot.lengths[track]) {
                    return false;
                }
            }
            return true;
        }

        /** The depth is the place in the row of leaving, at most five. */
        private boolean canAllGo(int place, int gone) {
            if (place >= depot.leaving) {
                return true;
            }
            for (int track = 0; track < TRACKS; track++) {
                int unit = lastOn(track, gone);
                if (unit != NONE && depot.canServe(unit, depot.wanted[place])
                        && canAllGo(place + 1, gone | 1 << unit)) {
                    return true;
                }
            }
            return false;
        }

        private int lastOn(int track, int gone) {
            for (int unit = depot.units - 1; unit >= 0; unit--) {
                if (row[unit] == track && (gone >> unit & 1) == 0) {
                    return unit;
                }
            }
            return NONE;
        }

        private int packRow() {
            int bits = 0;
            for (int unit = 0; unit < depot.units; unit++) {
                bits |= row[unit] << (TRACK_BITS * unit);
            }
            return bits;
        }

        private int findNarrowest() {
            int first = NONE;
            int fewest = TRACKS + 1;
            for (int k = 0; k < found; k++) {
                int used = tracksUsed(k);
                if (used < fewest) {
                    fewest = used;
                    first = k;
                }
            }
            return first;
        }

        private int tracksUsed(int k) {
            int bits = 0;
            for (int unit = 0; unit < depot.units; unit++) {
                bits |= 1 << trackIn(k, unit);
            }
            return Integer.bitCount(bits);
        }
    }

    /**
     * Three tracks as one number, so that a search makes no object for each of its positions. A track
     * is a stack of marks (1 .. 7) with the last one lowest; above the tracks stands how many are gone.
     */
    private static final class Position {
        private static final int MARK_BITS = 3;
        private static final int MARK_MASK = 7;
        private static final int TRACK_BITS = MARK_BITS * MOST_UNITS;
        private static final long TRACK_MASK = (1L << TRACK_BITS) - 1;
        private static final int GONE_SHIFT = TRACK_BITS * TRACKS;

        private Position() {
        }

        static int markOfKind(int kind) {
            return kind + 1;
        }

        static long put(long position, int track, int mark) {
            return withStack(position, track, stackOn(position, track) << MARK_BITS | mark);
        }

        static long take(long position, int track) {
            return withStack(position, track, stackOn(position, track) >>> MARK_BITS);
        }

        static long sendOff(long position, int track) {
            return take(position, track) + (1L << GONE_SHIFT);
        }

        static long shunt(long position, int from, int to) {
            return put(take(position, from), to, lastMark(position, from));
        }

        /** 0, if the track is empty. */
        static int lastMark(long position, int track) {
            return (int) stackOn(position, track) & MARK_MASK;
        }

        static int standing(long position, int track) {
            long stack = stackOn(position, track);
            int marks = 0;
            while (marks < MOST_UNITS && stack != 0) {
                stack >>>= MARK_BITS;
                marks++;
            }
            return marks;
        }

        static int gone(long position) {
            return (int) (position >>> GONE_SHIFT);
        }

        private static long stackOn(long position, int track) {
            return position >>> (TRACK_BITS * track) & TRACK_MASK;
        }

        private static long withStack(long position, int track, long stack) {
            int shift = TRACK_BITS * track;
            return position & ~(TRACK_MASK << shift) | (stack & TRACK_MASK) << shift;
        }
    }

    /**
     * Goes through the positions by their number of steps. Every run has the same number of goings off,
     * so the run of the fewest steps has the fewest shunts; and as each position's steps are tried
     * in their order, the way on which a position is first met is the first of its shortest ways.
     */
    private static final class Search {
        /**
         * Units of one mark are alike here, so those that are gone are told by their number alone:
         * with i of five gone there are at most (5 - i)! rows, cut into three tracks in
         * (7 - i)(6 - i) / 2 ways: 2520 + 360 + 60 + 12 + 3 + 1.
         */
        private static final int MOST_POSITIONS = 2956;
        private static final int LONG_BITS = 64;
        private static final int SLOT_BITS = 12;
        private static final int SLOTS = 1 << SLOT_BITS;
        private static final long SPREAD = 0x9E3779B97F4A7C15L;

        private final Depot depot;
        private final long[] positions = new long[MOST_POSITIONS];
        private final int[] metFrom = new int[MOST_POSITIONS];
        private final int[] stepTo = new int[MOST_POSITIONS];
        /** Where a position stands, plus 1; 0 is a free slot. */
        private final int[] slots = new int[SLOTS];
        private int met = 0;
        private int goal = NONE;

        Search(Depot depot) {
            this.depot = depot;
        }

        boolean findsRun(long start) {
            Arrays.fill(slots, 0);
            met = 0;
            goal = NONE;
            meet(start, NONE, NONE);
            for (int place = 0; place < MOST_POSITIONS && place < met && goal == NONE; place++) {
                tryGoings(place);
                tryShunts(place);
            }
            return goal != NONE;
        }

        int[] stepsToGoal() {
            int[] steps = new int[depthOf(goal)];
            int place = goal;
            for (int i = steps.length - 1; i >= 0 && place > 0; i--) {
                steps[i] = stepTo[place];
                place = metFrom[place];
            }
            return steps;
        }

        /** Each position is met from one that stands ahead of it, and the start stands at 0. */
        private int depthOf(int last) {
            int depth = 0;
            for (int place = last; place > 0 && depth < met; place = metFrom[place]) {
                depth++;
            }
            return depth;
        }

        private void tryGoings(int place) {
            long position = positions[place];
            int gone = Position.gone(position);
            if (gone >= depot.leaving) {
                return;
            }
            int mark = Position.markOfKind(depot.wanted[gone]);
            for (int track = 0; track < TRACKS; track++) {
                if (Position.lastMark(position, track) == mark) {
                    meet(Position.sendOff(position, track), place, track);
                }
            }
        }

        private void tryShunts(int place) {
            long position = positions[place];
            for (int from = 0; from < TRACKS; from++) {
                if (Position.lastMark(position, from) == 0) {
                    continue;
                }
                for (int to = 0; to < TRACKS; to++) {
                    if (to != from && Position.standing(position, to) < depot.lengths[to]) {
                        meet(Position.shunt(position, from, to), place, FIRST_SHUNT + TRACKS * from + to);
                    }
                }
            }
        }

        private void meet(long position, int from, int step) {
            int slot = slotFor(position);
            if (slot == NONE || slots[slot] != 0 || met >= MOST_POSITIONS) {
                return;
            }
            positions[met] = position;
            metFrom[met] = from;
            stepTo[met] = step;
            if (goal == NONE && Position.gone(position) >= depot.leaving) {
                goal = met;
            }
            met++;
            slots[slot] = met;
        }

        /** The slot that holds the position, or else the free one that is to hold it. */
        private int slotFor(long position) {
            int first = (int) (position * SPREAD >>> (LONG_BITS - SLOT_BITS));
            for (int i = 0; i < SLOTS; i++) {
                int slot = (first + i) & (SLOTS - 1);
                int holds = slots[slot];
                if (holds == 0 || positions[holds - 1] == position) {
                    return slot;
                }
            }
            return NONE;
        }
    }

    /** The first run of the yard as it stands, worked out anew only behind a change. */
    private static final class Runs {
        private static final int STAYING_MARK = KINDS + 1;

        private final Depot depot;
        private final int[] leavers = new int[MOST_LEAVING];
        private int[] steps = new int[0];
        int leastShunts = NONE;
        private int knownAt = -1;
        /** Made at the first need: its rows are by far the largest, and many nights do without. */
        private Search search = null;

        Runs(Depot depot) {
            this.depot = depot;
        }

        int stepNumber(int i) {
            return leastShunts != NONE && i >= 0 && i < steps.length ? steps[i] : NONE;
        }

        int leaver(int i) {
            return leastShunts != NONE && i >= 0 && i < depot.leaving ? leavers[i] : NONE;
        }

        void refresh() {
            if (knownAt == depot.changes) {
                return;
            }
            knownAt = depot.changes;
            leastShunts = NONE;
            if (!depot.hasEnough(depot.parked)) {
                return;
            }
            if (search == null) {
                search = new Search(depot);
            }
            if (search.findsRun(yard(false))) {
                steps = search.stepsToGoal();
                leastShunts = steps.length - depot.leaving;
                nameLeavers();
            }
        }

        /** The yard with a mark for each unit of its own, or with one for all that serve alike. */
        private long yard(boolean ofUnits) {
            long position = 0;
            for (int unit = 0; unit < depot.parked; unit++) {
                int mark = ofUnits ? unit + 1 : servingMark(unit);
                position = Position.put(position, depot.trackOf[unit], mark);
            }
            return position;
        }

        private int servingMark(int unit) {
            return depot.isBroken[unit] ? STAYING_MARK : Position.markOfKind(depot.kinds[unit]);
        }

        private void nameLeavers() {
            long position = yard(true);
            int gone = 0;
            for (int i = 0; i < steps.length; i++) {
                int step = steps[i];
                if (step >= FIRST_SHUNT) {
                    int tracks = step - FIRST_SHUNT;
                    position = Position.shunt(position, tracks / TRACKS, tracks % TRACKS);
                } else if (gone < MOST_LEAVING) {
                    leavers[gone] = Position.lastMark(position, step) - 1;
                    position = Position.sendOff(position, step);
                    gone++;
                }
            }
        }
    }

    /** When units are ready, by number and by the best order, worked out anew only when one has come. */
    private static final class Washing {
        private static final int BEHIND_ALL_WORK = 2 * LONGEST_WORK * MOST_UNITS + 1;

        private final Depot depot;
        private final int[] numbers = new int[MOST_UNITS];
        private final int[] trial = new int[MOST_UNITS];
        final int[] bestOrder = new int[MOST_UNITS];
        final int[] readyByNumber = new int[MOST_UNITS];
        final int[] readyByBest = new int[MOST_UNITS];
        int soonestEnd = 0;
        /** A unit's work never changes, so the number of units tells whether there is more to reckon. */
        private int knownUnits = 0;

        Washing(Depot depot) {
            this.depot = depot;
            for (int unit = 0; unit < MOST_UNITS; unit++) {
                numbers[unit] = unit;
            }
        }

        void refresh() {
            if (knownUnits == depot.units) {
                return;
            }
            knownUnits = depot.units;
            soonestEnd = BEHIND_ALL_WORK;
            tryOrders(0, 0, 0, 0);
            fillReady(numbers, readyByNumber);
            fillReady(bestOrder, readyByBest);
        }

        /**
         * The depth is the place in the order, at most five. Orders come in their own order, so only one
         * that ends sooner replaces another; none ends sooner than what is fuelled already.
         */
        private void tryOrders(int place, int taken, int washed, int fuelled) {
            if (fuelled >= soonestEnd) {
                return;
            }
            if (place >= depot.units) {
                soonestEnd = fuelled;
                System.arraycopy(trial, 0, bestOrder, 0, MOST_UNITS);
                return;
            }
            for (int unit = 0; unit < depot.units; unit++) {
                if ((taken >> unit & 1) == 0) {
                    trial[place] = unit;
                    int washedNow = washed + depot.washes[unit];
                    int fuelledNow = Math.max(washedNow, fuelled) + depot.fuels[unit];
                    tryOrders(place + 1, taken | 1 << unit, washedNow, fuelledNow);
                }
            }
        }

        private void fillReady(int[] order, int[] readyOf) {
            int washed = 0;
            int fuelled = 0;
            for (int place = 0; place < depot.units; place++) {
                int unit = order[place];
                washed += depot.washes[unit];
                fuelled = Math.max(washed, fuelled) + depot.fuels[unit];
                readyOf[unit] = fuelled;
            }
        }
    }
}
